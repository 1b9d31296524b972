/-! ===== PHASE B: states copied, kept, taken back ===== -/
theorem cp_ne {q : St} {s d n j : Nat} (h : j ≠ d) : (cpI q s d n).1 j = q.1 j := by
  unfold cpI rw_; simp [h]
theorem cp_at {q : St} {s d n i : Nat} (h : i < n) : (cpI q s d n).1 d i = q.1 s i := by
  unfold cpI rw_
  simp only [if_pos]
  rw [pk_cpy_in (Nat.zero_le _) (by omega)]
  rw [show 0 + (i - 0) = i by omega]
theorem cpZ_e {q : St} {s d n : Nat} (h : ∀ i, i < n → Bz (q.1 s i)) : cpZ q s d n = some (cpI q s d n) := by
  unfold cpZ; exact if_pos h
theorem Ss_copyFrom_e {q : St} {o o2 : Nat} (hd : o + 11 ≤ o2 ∨ o2 + 11 ≤ o) (h5 : ∀ i, i < 21 → Bz (gt q (o2 + 5) i)) (h7 : ∀ i, i < 32 → Bz (gt q (o2 + 7) i)) (h8 : ∀ i, i < 64 → Bz (gt q (o2 + 8) i)) (h9 : ∀ i, i < 16 → Bz (gt q (o2 + 9) i)) : ∃ q2, Ss_copyFrom o o2 q = some q2 ∧ (∀ j, j < o ∨ o + 11 ≤ j → q2.1 j = q.1 j) ∧ gt q2 o 0 = gt q o2 0 ∧ (∀ t i, 1 ≤ t → t ≤ 5 → i < 21 → gt q2 (o + t) i = gt q (o2 + t) i) ∧ (∀ i, i < 32 → gt q2 (o + 6) i = gt q (o2 + 6) i ∧ gt q2 (o + 7) i = gt q (o2 + 7) i) ∧ (∀ i, i < 64 → gt q2 (o + 8) i = gt q (o2 + 8) i) ∧ (∀ i, i < 16 → gt q2 (o + 9) i = gt q (o2 + 9) i ∧ gt q2 (o + 10) i = gt q (o2 + 10) i) := by
  unfold Ss_copyFrom
  simp only [lt_e]
  obtain ⟨q1, e1⟩ : ∃ q1, q1 = st q o 0 (gt q o2 0) := ⟨_, rfl⟩
  have n1 : ∀ j, j ≠ o → q1.1 j = q.1 j := fun j h => by rw [e1]; exact st_row_ne h
  have s1 : gt q1 o 0 = gt q o2 0 := by rw [e1]; exact gt_st_same
  rw [← e1]
  obtain ⟨q2, e2⟩ : ∃ q2, q2 = cpI q1 (o2 + 1) (o + 1) 21 := ⟨_, rfl⟩
  have n2 : ∀ j, j ≠ o + 1 → q2.1 j = q1.1 j := fun j h => by rw [e2]; exact cp_ne h
  have s2 : ∀ i, i < 21 → q2.1 (o + 1) i = q1.1 (o2 + 1) i := fun i h => by rw [e2]; exact cp_at h
  rw [← e2]
  obtain ⟨q3, e3⟩ : ∃ q3, q3 = cpI q2 (o2 + 2) (o + 2) 21 := ⟨_, rfl⟩
  have n3 : ∀ j, j ≠ o + 2 → q3.1 j = q2.1 j := fun j h => by rw [e3]; exact cp_ne h
  have s3 : ∀ i, i < 21 → q3.1 (o + 2) i = q2.1 (o2 + 2) i := fun i h => by rw [e3]; exact cp_at h
  rw [← e3]
  obtain ⟨q4, e4⟩ : ∃ q4, q4 = cpI q3 (o2 + 3) (o + 3) 21 := ⟨_, rfl⟩
  have n4 : ∀ j, j ≠ o + 3 → q4.1 j = q3.1 j := fun j h => by rw [e4]; exact cp_ne h
  have s4 : ∀ i, i < 21 → q4.1 (o + 3) i = q3.1 (o2 + 3) i := fun i h => by rw [e4]; exact cp_at h
  rw [← e4]
  obtain ⟨q5, e5⟩ : ∃ q5, q5 = cpI q4 (o2 + 4) (o + 4) 21 := ⟨_, rfl⟩
  have n5 : ∀ j, j ≠ o + 4 → q5.1 j = q4.1 j := fun j h => by rw [e5]; exact cp_ne h
  have s5 : ∀ i, i < 21 → q5.1 (o + 4) i = q4.1 (o2 + 4) i := fun i h => by rw [e5]; exact cp_at h
  rw [← e5]
  have r5 : ∀ j, j < o ∨ o + 11 ≤ j → q5.1 j = q.1 j := fun j h => by rw [n5 j (by omega), n4 j (by omega), n3 j (by omega), n2 j (by omega), n1 j (by omega)]
  rw [cpZ_e (fun i hi => by rw [r5 _ (by omega)]; exact h5 i hi), b1_some]
  obtain ⟨q6, e6⟩ : ∃ q6, q6 = cpI q5 (o2 + 5) (o + 5) 21 := ⟨_, rfl⟩
  have n6 : ∀ j, j ≠ o + 5 → q6.1 j = q5.1 j := fun j h => by rw [e6]; exact cp_ne h
  have s6 : ∀ i, i < 21 → q6.1 (o + 5) i = q5.1 (o2 + 5) i := fun i h => by rw [e6]; exact cp_at h
  rw [← e6]
  obtain ⟨q7, e7⟩ : ∃ q7, q7 = cpI q6 (o2 + 6) (o + 6) 32 := ⟨_, rfl⟩
  have n7 : ∀ j, j ≠ o + 6 → q7.1 j = q6.1 j := fun j h => by rw [e7]; exact cp_ne h
  have s7 : ∀ i, i < 32 → q7.1 (o + 6) i = q6.1 (o2 + 6) i := fun i h => by rw [e7]; exact cp_at h
  rw [← e7]
  have r7 : ∀ j, j < o ∨ o + 11 ≤ j → q7.1 j = q.1 j := fun j h => by rw [n7 j (by omega), n6 j (by omega), r5 j h]
  rw [cpZ_e (fun i hi => by rw [r7 _ (by omega)]; exact h7 i hi), b1_some]
  obtain ⟨q8, e8⟩ : ∃ q8, q8 = cpI q7 (o2 + 7) (o + 7) 32 := ⟨_, rfl⟩
  have n8 : ∀ j, j ≠ o + 7 → q8.1 j = q7.1 j := fun j h => by rw [e8]; exact cp_ne h
  have s8 : ∀ i, i < 32 → q8.1 (o + 7) i = q7.1 (o2 + 7) i := fun i h => by rw [e8]; exact cp_at h
  rw [← e8]
  have r8 : ∀ j, j < o ∨ o + 11 ≤ j → q8.1 j = q.1 j := fun j h => by rw [n8 j (by omega), r7 j h]
  rw [cpZ_e (fun i hi => by rw [r8 _ (by omega)]; exact h8 i hi), b1_some]
  obtain ⟨q9, e9⟩ : ∃ q9, q9 = cpI q8 (o2 + 8) (o + 8) 64 := ⟨_, rfl⟩
  have n9 : ∀ j, j ≠ o + 8 → q9.1 j = q8.1 j := fun j h => by rw [e9]; exact cp_ne h
  have s9 : ∀ i, i < 64 → q9.1 (o + 8) i = q8.1 (o2 + 8) i := fun i h => by rw [e9]; exact cp_at h
  rw [← e9]
  have r9 : ∀ j, j < o ∨ o + 11 ≤ j → q9.1 j = q.1 j := fun j h => by rw [n9 j (by omega), r8 j h]
  rw [cpZ_e (fun i hi => by rw [r9 _ (by omega)]; exact h9 i hi), b1_some]
  obtain ⟨q10, e10⟩ : ∃ q10, q10 = cpI q9 (o2 + 9) (o + 9) 16 := ⟨_, rfl⟩
  have n10 : ∀ j, j ≠ o + 9 → q10.1 j = q9.1 j := fun j h => by rw [e10]; exact cp_ne h
  have s10 : ∀ i, i < 16 → q10.1 (o + 9) i = q9.1 (o2 + 9) i := fun i h => by rw [e10]; exact cp_at h
  rw [← e10]
  have r10 : ∀ j, j < o ∨ o + 11 ≤ j → q10.1 j = q.1 j := fun j h => by rw [n10 j (by omega), r9 j h]
  obtain ⟨q11, e11⟩ : ∃ q11, q11 = cpI q10 (o2 + 10) (o + 10) 16 := ⟨_, rfl⟩
  have n11 : ∀ j, j ≠ o + 10 → q11.1 j = q10.1 j := fun j h => by rw [e11]; exact cp_ne h
  have s11 : ∀ i, i < 16 → q11.1 (o + 10) i = q10.1 (o2 + 10) i := fun i h => by rw [e11]; exact cp_at h
  rw [← e11]
  clear e1 e2 e3 e4 e5 e6 e7 e8 e9 e10 e11
  have r1 : ∀ j, j < o ∨ o + 11 ≤ j → q1.1 j = q.1 j := fun j h => n1 j (by omega)
  have r2 : ∀ j, j < o ∨ o + 11 ≤ j → q2.1 j = q.1 j := fun j h => by rw [n2 j (by omega), r1 j h]
  have r3 : ∀ j, j < o ∨ o + 11 ≤ j → q3.1 j = q.1 j := fun j h => by rw [n3 j (by omega), r2 j h]
  have r4 : ∀ j, j < o ∨ o + 11 ≤ j → q4.1 j = q.1 j := fun j h => by rw [n4 j (by omega), r3 j h]
  have r6 : ∀ j, j < o ∨ o + 11 ≤ j → q6.1 j = q.1 j := fun j h => by rw [n6 j (by omega), r5 j h]
  refine ⟨q11, rfl, fun j h => by rw [n11 j (by omega), r10 j h], ?_, fun t i h1 h2 hi => ?_, fun i hi => ⟨?_, ?_⟩, fun i hi => ?_, fun i hi => ⟨?_, ?_⟩⟩
  · rw [gt_e, n11 o (by omega), n10 o (by omega), n9 o (by omega), n8 o (by omega), n7 o (by omega), n6 o (by omega), n5 o (by omega), n4 o (by omega), n3 o (by omega), n2 o (by omega)]; exact s1
  · rcases (show t = 1 ∨ t = 2 ∨ t = 3 ∨ t = 4 ∨ t = 5 by omega) with rfl | rfl | rfl | rfl | rfl
    · rw [gt_e, gt_e, n11 _ (by omega), n10 _ (by omega), n9 _ (by omega), n8 _ (by omega), n7 _ (by omega), n6 _ (by omega), n5 _ (by omega), n4 _ (by omega), n3 _ (by omega), s2 i hi, r1 _ (by omega)]
    · rw [gt_e, gt_e, n11 _ (by omega), n10 _ (by omega), n9 _ (by omega), n8 _ (by omega), n7 _ (by omega), n6 _ (by omega), n5 _ (by omega), n4 _ (by omega), s3 i hi, r2 _ (by omega)]
    · rw [gt_e, gt_e, n11 _ (by omega), n10 _ (by omega), n9 _ (by omega), n8 _ (by omega), n7 _ (by omega), n6 _ (by omega), n5 _ (by omega), s4 i hi, r3 _ (by omega)]
    · rw [gt_e, gt_e, n11 _ (by omega), n10 _ (by omega), n9 _ (by omega), n8 _ (by omega), n7 _ (by omega), n6 _ (by omega), s5 i hi, r4 _ (by omega)]
    · rw [gt_e, gt_e, n11 _ (by omega), n10 _ (by omega), n9 _ (by omega), n8 _ (by omega), n7 _ (by omega), s6 i hi, r5 _ (by omega)]
  · rw [gt_e, gt_e, n11 _ (by omega), n10 _ (by omega), n9 _ (by omega), n8 _ (by omega), s7 i hi, r6 _ (by omega)]
  · rw [gt_e, gt_e, n11 _ (by omega), n10 _ (by omega), n9 _ (by omega), s8 i hi, r7 _ (by omega)]
  · rw [gt_e, gt_e, n11 _ (by omega), n10 _ (by omega), s9 i hi, r8 _ (by omega)]
  · rw [gt_e, gt_e, n11 _ (by omega), s10 i hi, r9 _ (by omega)]
  · rw [gt_e, gt_e, s11 i hi, r10 _ (by omega)]
theorem copy_state {A : Ab} {s : Nat → Nat} {R : Nat} {q : St} {o o2 : Nat} (hd : o + 11 ≤ o2 ∨ o2 + 11 ≤ o) (hR : R ≤ 21) (hL : A 0 1 ≤ 32) (hc : WFc A) (h : RKw A s R q o2) : ∃ q2, Ss_copyFrom o o2 q = some q2 ∧ (∀ j, j < o ∨ o + 11 ≤ j → q2.1 j = q.1 j) ∧ RKw A s R q2 o := by
  obtain ⟨a1, a2, a3, a4, a5, a6, a7⟩ := h
  obtain ⟨q2, c1, c2, c3, c4, c5, c6, c7⟩ := Ss_copyFrom_e (q := q) hd a6 a7 (fun i hi => by
    have := a4 (i / 4) (i % 4) (by omega) (by omega)
    rw [show i / 4 * 4 + i % 4 = i by omega] at this
    rw [this]
    exact Bz_nI (hc.2 (i / 4) (i % 4) (by omega) (by omega)).1) (fun i hi => by
    rw [(a5 i hi).1]
    split
    · exact Or.inl rfl
    · exact Or.inr rfl)
  refine ⟨q2, c1, c2, by rw [c3]; exact a1, fun r hr => ?_, fun l hl => ?_, fun n f hn hf => ?_, fun n hn => ?_, fun i hi => ?_, fun i hi => ?_⟩
  · rw [c4 1 r (by omega) (by omega) (by omega), c4 2 r (by omega) (by omega) (by omega), c4 3 r (by omega) (by omega) (by omega), c4 4 r (by omega) (by omega) (by omega), c4 5 r (by omega) (by omega) (by omega)]; exact a2 r hr
  · rw [(c5 l (by omega)).1, (c5 l (by omega)).2]; exact a3 l hl
  · rw [c6 _ (by omega)]; exact a4 n f hn hf
  · rw [(c7 n hn).1, (c7 n hn).2]; exact a5 n hn
  · rw [c4 5 i (by omega) (by omega) hi]; exact a6 i hi
  · rw [(c5 i hi).2]; exact a7 i hi
theorem RMw_ext {A : Ab} {w w2 : Nat → Int32} (hL : A 0 1 ≤ 32) (h : ∀ i, i < 202 → w2 i = w i) (hw : RMw A w) : RMw A w2 := by
  obtain ⟨h1, h2, h3, h4, h5⟩ := hw
  refine ⟨fun l hl => ?_, fun n hn => ?_, fun n hn => ?_, ?_, fun r hr => ?_⟩
  · rw [h l (by omega), h (32 + l) (by omega)]; exact h1 l hl
  · rw [h _ (by omega)]; exact h2 n hn
  · rw [h _ (by omega)]; exact h3 n hn
  · rw [h _ (by omega)]; exact h4
  · rw [h _ (by omega), h _ (by omega), h _ (by omega), h _ (by omega), h _ (by omega)]; exact h5 r hr
theorem lays2 : ∀ (fu i : Nat) (m : St), (∀ j, j < i → gt m 5 j = gt m 4 j) → i ≤ 202 → 202 < i + fu → ∃ m2, M_laysAside_L2 fu (nI i) m = some m2 ∧ (∀ j, j ≠ 5 → m2.1 j = m.1 j) ∧ ∀ j, j < 202 → gt m2 5 j = gt m 4 j := by
  intro fu
  induction fu with
  | zero => intro i m _ h1 h2; omega
  | succ fu ih =>
    intro i m hm h1 h2
    rw [M_laysAside_L2]; unfold M_laysAside_B2
    rw [li202]
    simp (disch := omega) only [b1_some, b2_some, lt_e, rd_n, wr_n, nI_add, pk_mul, nI_leI, nI_ltI, nI_eq, nI_1]
    by_cases e : i < 202
    · rw [if_neg (by omega), rd_n e (by omega), b1_some, wr_n e (by omega), b1_some]
      obtain ⟨m2, a1, a2, a3⟩ := ih (i + 1) (st m 5 i (gt m 4 i)) (fun j hj => by
        rw [gt_st_k (show 4 ≠ 5 by omega)]
        by_cases d : j = i
        · rw [d, gt_st_same]
        · rw [gt_st_i d]; exact hm j (by omega)) (by omega) (by omega)
      refine ⟨m2, a1, fun j hj => by rw [a2 j hj, st_row_ne hj], fun j hj => ?_⟩
      rw [a3 j hj, gt_st_k (by omega)]
    · rw [if_pos (by omega)]
      have : i = 202 := by omega
      subst this
      exact ⟨m, rfl, fun _ _ => rfl, hm⟩
theorem M_laysAside_e (m : St) : ∃ m2, M_laysAside m = some m2 ∧ (∀ j, j ≠ 5 → m2.1 j = m.1 j) ∧ ∀ j, j < 202 → gt m2 5 j = gt m 4 j :=
  lays2 FU 0 m (fun j hj => by omega) (by omega) (by rw [FU_e]; omega)
theorem comes2 : ∀ (fu i : Nat) (m : St), (∀ j, j < i → gt m 4 j = gt m 5 j) → i ≤ 202 → 202 < i + fu → ∃ m2, M_comesBack_L2 fu (nI i) m = some m2 ∧ (∀ j, j ≠ 4 → m2.1 j = m.1 j) ∧ ∀ j, j < 202 → gt m2 4 j = gt m 5 j := by
  intro fu
  induction fu with
  | zero => intro i m _ h1 h2; omega
  | succ fu ih =>
    intro i m hm h1 h2
    rw [M_comesBack_L2]; unfold M_comesBack_B2
    rw [li202]
    simp (disch := omega) only [b1_some, b2_some, lt_e, rd_n, wr_n, nI_add, pk_mul, nI_leI, nI_ltI, nI_eq, nI_1]
    by_cases e : i < 202
    · rw [if_neg (by omega), rd_n e (by omega), b1_some, wr_n e (by omega), b1_some]
      obtain ⟨m2, a1, a2, a3⟩ := ih (i + 1) (st m 4 i (gt m 5 i)) (fun j hj => by
        rw [gt_st_k (show 5 ≠ 4 by omega)]
        by_cases d : j = i
        · rw [d, gt_st_same]
        · rw [gt_st_i d]; exact hm j (by omega)) (by omega) (by omega)
      refine ⟨m2, a1, fun j hj => by rw [a2 j hj, st_row_ne hj], fun j hj => ?_⟩
      rw [a3 j hj, gt_st_k (by omega)]
    · rw [if_pos (by omega)]
      have : i = 202 := by omega
      subst this
      exact ⟨m, rfl, fun _ _ => rfl, hm⟩
theorem M_comesBack_e (m : St) : ∃ m2, M_comesBack m = some m2 ∧ (∀ j, j ≠ 4 → m2.1 j = m.1 j) ∧ ∀ j, j < 202 → gt m2 4 j = gt m 5 j :=
  comes2 FU 0 m (fun j hj => by omega) (by omega) (by rw [FU_e]; omega)
/-- what was laid aside comes back -/
theorem back {A : Ab} {m m1 m2 m3 : St} (hL : A 0 1 ≤ 32) (hR : RM A m) (h1 : ∀ j, j ≠ 5 → m1.1 j = m.1 j) (h2 : ∀ j, j < 202 → gt m1 5 j = gt m 4 j) (h3 : Fx m1 m2) (h4 : ∀ j, j ≠ 4 → m3.1 j = m2.1 j) (h5 : ∀ j, j < 202 → gt m3 4 j = gt m2 5 j) : RM A m3 ∧ (∀ j, j = 1 ∨ j = 2 ∨ j = 6 → m3.1 j = m.1 j) ∧ ∀ i, i ≠ 23 → i ≠ 28 → m3.1 0 i = m.1 0 i := by
  have e : ∀ j, j = 1 ∨ j = 2 ∨ j = 6 → m3.1 j = m.1 j := fun j hj => by rw [h4 j (by omega), h3.1 j (by omega), h1 j (by omega)]
  refine ⟨⟨by rw [e 2 (by omega)]; exact hR.1, RMw_ext hL (fun i hi => ?_) hR.2⟩, e, fun i x y => by rw [h4 0 (by omega), h3.2 i x y, h1 0 (by omega)]⟩
  show gt m3 4 i = gt m 4 i
  rw [h5 i hi, gt_e, h3.1 5 (by omega)]
  exact h2 i hi
theorem keeps54 {U : Nat} (hU : U < 10) (m0 : St) : ∀ (fu i : Nat) (m : St), gt m 0 15 = nI U → (∀ j, j ≠ 6 → m.1 j = m0.1 j) → (∀ j, m.1 6 j = if 202 * U ≤ j ∧ j < 202 * U + i then m0.1 4 (j - 202 * U) else m0.1 6 j) → i ≤ 202 → 202 < i + fu → ∃ m2, M_keeps_L54 fu (nI i) m = some m2 ∧ (∀ j, j ≠ 6 → j ≠ 0 → m2.1 j = m0.1 j) ∧ (∀ j, j ≠ 15 → m2.1 0 j = m0.1 0 j) ∧ gt m2 0 15 = nI (U + 1) ∧ ∀ j, m2.1 6 j = if 202 * U ≤ j ∧ j < 202 * U + 202 then m0.1 4 (j - 202 * U) else m0.1 6 j := by
  intro fu
  induction fu with
  | zero => intro i m _ _ _ h1 h2; omega
  | succ fu ih =>
    intro i m hu hm h6 h1 h2
    rw [M_keeps_L54]; unfold M_keeps_B54
    rw [li202, hu]
    simp (disch := omega) only [b1_some, b2_some, lt_e, rd_n, wr_n, nI_add, pk_mul, nI_leI, nI_ltI, nI_eq, nI_1]
    by_cases e : i < 202
    · rw [if_neg (by omega), rd_n e (by omega), b1_some, wr_n (by omega) (by omega), b1_some]
      refine ih (i + 1) _ (by rw [gt_st_k (by omega)]; exact hu) (fun j hj => by rw [st_row_ne hj]; exact hm j hj) (fun j => ?_) (by omega) (by omega)
      rw [st_row_same, upd_e]
      by_cases d : j = 202 * U + i
      · rw [if_pos d, if_pos (by omega), gt_e, hm 4 (by omega), show j - 202 * U = i by omega]
      · rw [if_neg d, h6 j]
        by_cases c : 202 * U ≤ j ∧ j < 202 * U + i
        · rw [if_pos c, if_pos (by omega)]
        · rw [if_neg c, if_neg (by omega)]
    · rw [if_pos (by omega)]
      have : i = 202 := by omega
      subst this
      refine ⟨_, rfl, fun j hj h0 => by rw [st_row_ne h0]; exact hm j hj, fun j hj => ?_, gt_st_same, fun j => by rw [st_row_ne (by omega)]; exact h6 j⟩
      rw [st_row_same, upd_e, if_neg hj, hm 0 (by omega)]
theorem keeps13 (m0 : St) (kk : St → Option St) : ∀ (fu i : Nat) (m : St), (∀ j, j ≠ 6 → m.1 j = m0.1 j) → (∀ j, m.1 6 j = if j + 202 < i then m0.1 6 (j + 202) else m0.1 6 j) → 202 ≤ i → i ≤ 2020 → 2020 < i + fu → ∃ m2, M_keeps_L13 kk fu (nI i) m = kk m2 ∧ (∀ j, j ≠ 6 → m2.1 j = m0.1 j) ∧ ∀ j, m2.1 6 j = if j + 202 < 2020 then m0.1 6 (j + 202) else m0.1 6 j := by
  intro fu
  induction fu with
  | zero => intro i m _ _ _ h1 h2; omega
  | succ fu ih =>
    intro i m hm h6 h0 h1 h2
    rw [M_keeps_L13]; unfold M_keeps_B13
    rw [show (2020 : Int32) = nI 2020 by decide, li202]
    simp (disch := omega) only [b1_some, b2_some, lt_e, rd_n, wr_n, nI_add, pk_mul, nI_leI, nI_ltI, nI_eq, nI_1]
    by_cases e : i < 2020
    · rw [if_neg (by omega), rd_n e (by omega), b1_some, show nI i - nI 202 = nI (i - 202) from by
        rw [show nI i = nI (i - 202 + 202) by rw [show i - 202 + 202 = i by omega], ← nI_add, Int32.add_sub_cancel], wr_n (by omega) (by omega), b1_some]
      refine ih (i + 1) _ (fun j hj => by rw [st_row_ne hj]; exact hm j hj) (fun j => ?_) (by omega) (by omega) (by omega)
      rw [st_row_same, upd_e]
      by_cases d : j = i - 202
      · rw [if_pos d, if_pos (by omega), gt_e, h6 i, if_neg (by omega), show j + 202 = i by omega]
      · rw [if_neg d, h6 j]
        by_cases c : j + 202 < i
        · rw [if_pos c, if_pos (by omega)]
        · rw [if_neg c, if_neg (by omega)]
    · rw [if_pos (by omega)]
      have : i = 2020 := by omega
      subst this
      exact ⟨m, rfl, hm, h6⟩
/-- the reference keeps its world -/
theorem M_keeps_e {m : St} {U : Nat} (hU : U ≤ 10) (hu : gt m 0 15 = nI U) : ∃ m2, M_keeps m = some m2 ∧ (∀ j, j ≠ 6 → j ≠ 0 → m2.1 j = m.1 j) ∧ (∀ j, j ≠ 15 → m2.1 0 j = m.1 0 j) ∧ gt m2 0 15 = nI (if U = 10 then 10 else U + 1) ∧ (∀ i, i < 202 → m2.1 6 (202 * (if U = 10 then 9 else U) + i) = m.1 4 i) ∧ ∀ j i, j < (if U = 10 then 9 else U) → i < 202 → m2.1 6 (202 * j + i) = m.1 6 (202 * (j + if U = 10 then 1 else 0) + i) := by
  unfold M_keeps
  rw [hu, li10]
  simp (disch := omega) only [b1_some, b2_some, lt_e, rd_n, wr_n, nI_add, pk_mul, nI_leI, nI_ltI, nI_eq, nI_1]
  by_cases c : U = 10
  · rw [if_pos c, if_pos c, if_pos c, if_pos c]
    obtain ⟨m1, a1, a2, a3⟩ := keeps13 m (fun q9 => M_keeps_L54 FU 0 (st q9 0 15 (gt q9 0 15 - 1))) FU 202 m (fun _ _ => rfl) (fun j => by rw [if_neg (by omega)]) (by omega) (by omega) (by rw [FU_e]; omega)
    rw [show nI 202 = 202 from rfl] at a1
    rw [a1]
    have h15 : gt m1 0 15 = nI (9 + 1) := by rw [gt_e, a2 0 (by omega)]; rw [c] at hu; exact hu
    rw [h15, nI_m1]
    obtain ⟨m2, b1', b2', b3', b4', b5'⟩ := keeps54 (U := 9) (by omega) (st m1 0 15 (nI 9)) FU 0 (st m1 0 15 (nI 9)) gt_st_same (fun _ _ => rfl) (fun j => by rw [if_neg (by omega)]) (by omega) (by rw [FU_e]; omega)
    rw [show nI 0 = 0 from rfl] at b1'
    refine ⟨m2, b1', fun j hj h0 => by rw [b2' j hj h0, st_row_ne h0, a2 j hj], fun j hj => ?_, b4', fun i hi => ?_, fun j i hj hi => ?_⟩
    · rw [b3' j hj, st_row_same, upd_e, if_neg hj, a2 0 (by omega)]
    · rw [b5', if_pos (by omega), st_row_ne (by omega), a2 4 (by omega), show 202 * 9 + i - 202 * 9 = i by omega]
    · rw [b5', if_neg (by omega), st_row_ne (by omega), a3, if_pos (by omega), show 202 * j + i + 202 = 202 * (j + 1) + i by omega]
  · rw [if_neg c, if_neg c, if_neg c, if_neg c]
    obtain ⟨m2, b1', b2', b3', b4', b5'⟩ := keeps54 (U := U) (by omega) m FU 0 m hu (fun _ _ => rfl) (fun j => by rw [if_neg (by omega)]) (by omega) (by rw [FU_e]; omega)
    rw [show nI 0 = 0 from rfl] at b1'
    refine ⟨m2, b1', b2', b3', b4', fun i hi => ?_, fun j i hj hi => ?_⟩
    · rw [b5', if_pos (by omega), show 202 * U + i - 202 * U = i by omega]
    · rw [b5', if_neg (by omega), Nat.add_zero]
theorem imin_n {a b : Nat} (ha : a < 2 ^ 31) (hb : b < 2 ^ 31) : imin (nI a) (nI b) = nI (min a b) := by
  unfold imin
  by_cases c : b < a
  · rw [if_pos ((nI_ltI hb ha).mpr c), show min a b = b by omega]
  · rw [if_neg (fun z => c ((nI_ltI hb ha).mp z)), show min a b = a by omega]
/-- the class keeps a state -/
theorem Hi_keep_e {A : Ab} {s : Nat → Nat} {R : Nat} {k : St} {o2 U nx : Nat} (ho : o2 = 19 ∨ o2 = 30) (hR : R ≤ 21) (hL : A 0 1 ≤ 32) (hc : WFc A) (h : RKw A s R k o2) (hU : U ≤ 10) (hn : nx < 10) (h1 : gt k 41 1 = nI U) (h2 : gt k 41 2 = nI nx) : ∃ k2, Hi_keep o2 k = some k2 ∧ (∀ j, j ≠ 41 → j < 43 + 11 * nx ∨ 43 + 11 * nx + 11 ≤ j → k2.1 j = k.1 j) ∧ gt k2 41 1 = nI (min (U + 1) 10) ∧ gt k2 41 2 = nI (if nx = 9 then 0 else nx + 1) ∧ RKw A s R k2 (43 + 11 * nx) := by
  unfold Hi_keep
  rw [h2]
  unfold ck
  rw [if_neg (nI_in hn (by omega)), nI_clamp (by omega)]
  obtain ⟨k1, a1, a2, a3⟩ := copy_state (o := 43 + 11 * nx) (o2 := o2) (by omega) hR hL hc h
  rw [a1, b1_some]
  have g1 : gt k1 41 1 = nI U := by rw [gt_e, a2 41 (by omega)]; exact h1
  have g2 : gt k1 41 2 = nI nx := by rw [gt_e, a2 41 (by omega)]; exact h2
  rw [g2, li10, nI_1]
  have J : ∀ z : Nat, Hi_keep_J35 o2 (nI z) k1 = some (st (st k1 41 2 (nI z)) 41 1 (nI (min (U + 1) 10))) := fun z => by
    unfold Hi_keep_J35
    rw [lt_e, lt_e, gt_st_i (by omega), g1, nI_1, li10, imin_n (by omega) (by omega)]
  have fin : ∀ z : Nat, z = (if nx = 9 then 0 else nx + 1) → ∃ k2, some (st (st k1 41 2 (nI z)) 41 1 (nI (min (U + 1) 10))) = some k2 ∧ (∀ j, j ≠ 41 → j < 43 + 11 * nx ∨ 43 + 11 * nx + 11 ≤ j → k2.1 j = k.1 j) ∧ gt k2 41 1 = nI (min (U + 1) 10) ∧ gt k2 41 2 = nI (if nx = 9 then 0 else nx + 1) ∧ RKw A s R k2 (43 + 11 * nx) := fun z hz => by
    refine ⟨_, rfl, fun j hj h9 => by rw [st_row_ne hj, st_row_ne hj, a2 j h9], gt_st_same, by rw [gt_st_i (by omega), gt_st_same, hz], RKw_row (fun j h1 h2 => by rw [st_row_ne (by omega), st_row_ne (by omega)]) a3⟩
  simp (disch := omega) only [b1_some, b2_some, lt_e, rd_n, wr_n, nI_add, pk_mul, nI_leI, nI_ltI, nI_eq, nI_1]
  by_cases c : nx = 9
  · rw [if_pos (by omega), li0, J 0]
    exact fin 0 (by rw [if_pos c])
  · rw [if_neg (by omega), J (nx + 1)]
    exact fin (nx + 1) (by rw [if_neg c])
/-- what can be undone -/
def Hs (A : Ab) (k m : St) : Prop := ∃ (U nx : Nat) (H : Nat → Ab), U ≤ 10 ∧ nx < 10 ∧ gt m 0 15 = nI U ∧ gt k 41 1 = nI U ∧ gt k 41 2 = nI nx ∧ ∀ j, j < U → WFg (H j) ∧ Es A (H j) ∧ RMw (H j) (fun i => m.1 6 (202 * j + i)) ∧ RKw (H j) sI (H j 0 4) k (43 + 11 * ((nx + 10 - U + j) % 10))
theorem Hs.row {A : Ab} {k m k2 m2 : St} (h : Hs A k m) (h1 : ∀ j, 41 ≤ j → j < 153 → k2.1 j = k.1 j) (h2 : m2.1 6 = m.1 6) (h3 : m2.1 0 15 = m.1 0 15) : Hs A k2 m2 := by
  obtain ⟨U, nx, H, a1, a2, a3, a4, a5, a6⟩ := h
  refine ⟨U, nx, H, a1, a2, by rw [gt_e, h3]; exact a3, by rw [gt_e, h1 41 (by omega) (by omega)]; exact a4, by rw [gt_e, h1 41 (by omega) (by omega)]; exact a5, fun j hj => ?_⟩
  obtain ⟨b1', b2', b3', b4'⟩ := a6 j hj
  refine ⟨b1', b2', by rw [h2]; exact b3', RKw_row (fun i x y => h1 i (by omega) (by omega)) b4'⟩
theorem Hs.es {A B : Ab} {k m : St} (h : Hs A k m) (he : Es A B) : Hs B k m := by
  obtain ⟨U, nx, H, a1, a2, a3, a4, a5, a6⟩ := h
  refine ⟨U, nx, H, a1, a2, a3, a4, a5, fun j hj => ?_⟩
  obtain ⟨b1', b2', b3', b4'⟩ := a6 j hj
  exact ⟨b1', fun a i x y => by rw [b2' a i x y, he a i x y], b3', b4'⟩
theorem Hs.keep {A B : Ab} {k m : St} {o2 : Nat} (h : Hs A k m) (ho : o2 = 19 ∨ o2 = 30) (hB : WFg B) (hE : Es A B) (hM : RMw B (m.1 4)) (hK : RKw B sI (B 0 4) k o2) : ∃ k2 m2, M_keeps m = some m2 ∧ Hi_keep o2 k = some k2 ∧ Hs A k2 m2 ∧ (∀ j, j ≠ 6 → j ≠ 0 → m2.1 j = m.1 j) ∧ (∀ j, j ≠ 15 → m2.1 0 j = m.1 0 j) ∧ ∀ j, j < 41 ∨ 153 ≤ j → k2.1 j = k.1 j := by
  obtain ⟨U, nx, H, a1, a2, a3, a4, a5, a6⟩ := h
  have hN := hB.1.1.1
  have hB4 := hB.2.1.1
  obtain ⟨m2, b1', b2', b3', b4', b5', b6'⟩ := M_keeps_e a1 a3
  obtain ⟨k2, c1, c2, c3, c4, c5⟩ := Hi_keep_e ho (by omega) (by omega) hB.1.2.2.1 hK a1 a2 a4 a5
  refine ⟨k2, m2, b1', c1, ?_, b2', b3', fun j hj => c2 j (by omega) (by omega)⟩
  by_cases c : U = 10
  · rw [if_pos c] at b4' b5' b6'
    rw [if_pos c] at b6'
    rw [show min (U + 1) 10 = 10 by omega] at c3
    refine ⟨10, _, fun j => if j = 9 then B else H (j + 1), by omega, ?_, b4', c3, c4, fun j hj => ?_⟩
    · split <;> omega
    · by_cases d : j = 9
      · subst d
        simp only [if_pos]
        refine ⟨hB, hE, RMw_ext (by omega) (fun i hi => b5' i hi) hM, ?_⟩
        rw [show ((if nx = 9 then 0 else nx + 1) + 10 - 10 + 9) % 10 = nx by split <;> omega]
        exact c5
      · simp only [if_neg d]
        obtain ⟨d1, d2, d3, d4⟩ := a6 (j + 1) (by omega)
        have hN2 := d1.1.1.1
        refine ⟨d1, d2, RMw_ext (by omega) (fun i hi => b6' j i (by omega) hi) d3, ?_⟩
        rw [show ((if nx = 9 then 0 else nx + 1) + 10 - 10 + j) % 10 = (nx + 10 - U + (j + 1)) % 10 by split <;> omega]
        exact RKw_row (fun i x y => c2 i (by omega) (by omega)) d4
  · rw [if_neg c] at b4' b5' b6'
    rw [if_neg c] at b6'
    rw [show min (U + 1) 10 = U + 1 by omega] at c3
    refine ⟨U + 1, _, fun j => if j = U then B else H j, by omega, ?_, b4', c3, c4, fun j hj => ?_⟩
    · split <;> omega
    · by_cases d : j = U
      · subst d
        simp only [if_pos]
        refine ⟨hB, hE, RMw_ext (by omega) (fun i hi => b5' i hi) hM, ?_⟩
        rw [show ((if nx = 9 then 0 else nx + 1) + 10 - (j + 1) + j) % 10 = nx by split <;> omega]
        exact c5
      · simp only [if_neg d]
        obtain ⟨d1, d2, d3, d4⟩ := a6 j (by omega)
        have hN2 := d1.1.1.1
        refine ⟨d1, d2, RMw_ext (by omega) (fun i hi => by have := b6' j i (by omega) hi; rw [Nat.add_zero] at this; exact this) d3, ?_⟩
        rw [show ((if nx = 9 then 0 else nx + 1) + 10 - (U + 1) + j) % 10 = (nx + 10 - U + j) % 10 by split <;> omega]
        exact RKw_row (fun i x y => c2 i (by omega) (by omega)) d4
theorem undo21 {U : Nat} (hU : U < 10) (m0 : St) : ∀ (fu i : Nat) (m : St), gt m 0 15 = nI U → (∀ j, j ≠ 4 → m.1 j = m0.1 j) → (∀ j, j < i → gt m 4 j = gt m0 6 (202 * U + j)) → i ≤ 202 → 202 < i + fu → ∃ m2, M_undo_L21 fu (nI i) m = some (nI U, m2) ∧ (∀ j, j ≠ 4 → m2.1 j = m0.1 j) ∧ ∀ j, j < 202 → gt m2 4 j = gt m0 6 (202 * U + j) := by
  intro fu
  induction fu with
  | zero => intro i m _ _ _ h1 h2; omega
  | succ fu ih =>
    intro i m hu hm h4 h1 h2
    rw [M_undo_L21]; unfold M_undo_B21
    rw [li202, hu]
    simp (disch := omega) only [b1_some, b2_some, lt_e, rd_n, wr_n, nI_add, pk_mul, nI_leI, nI_ltI, nI_eq, nI_1]
    by_cases e : i < 202
    · rw [if_neg (by omega), rd_n (by omega) (by omega), b1_some, wr_n e (by omega), b1_some]
      refine ih (i + 1) _ (by rw [gt_st_k (by omega)]; exact hu) (fun j hj => by rw [st_row_ne hj]; exact hm j hj) (fun j hj => ?_) (by omega) (by omega)
      by_cases d : j = i
      · rw [d, gt_st_same, gt_e, hm 6 (by omega)]; rfl
      · rw [gt_st_i d]; exact h4 j (by omega)
    · rw [if_pos (by omega)]
      have : i = 202 := by omega
      subst this
      exact ⟨m, rfl, hm, h4⟩
