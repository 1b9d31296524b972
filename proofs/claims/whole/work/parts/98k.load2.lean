/-! ===== PHASE B: load in the class; the start ===== -/
theorem ct2 : ∀ (fu n : Nat) (k : St), n ≤ 16 → 16 < n + fu → (∀ j, j < n → gt k 28 j = (if j = 0 then 1 else 0) ∧ gt k 29 j = -1) → ∃ k2, Ss_clearTree_L2 fu (nI n) k = some k2 ∧ (∀ j, j < 16 → gt k2 28 j = (if j = 0 then 1 else 0) ∧ gt k2 29 j = -1) ∧ ∀ j, j ≠ 28 → j ≠ 29 → k2.1 j = k.1 j := by
  intro fu
  induction fu with
  | zero => intro n k h1 h2; omega
  | succ fu ih =>
    intro n k h1 h2 h3
    rw [Ss_clearTree_L2]; unfold Ss_clearTree_B2 Ss_clearTree_J22
    by_cases e : n < 16
    · rw [if_neg (show ¬ (16 : Int32) ≤ nI n from fun z => by have := (nI_leI (a := 16) (by omega) (by omega)).mp z; omega), nar1, nar0, wr_n (by omega) (by omega), b1_some, wr_n (by omega) (by omega), b1_some, wr_n (by omega) (by omega), b1_some, wr_n (by omega) (by omega), b1_some, nI_1]
      have go : ∀ v : Int32, v = (if n = 0 then 1 else 0) → ∃ k2, Ss_clearTree_L2 fu (nI (n + 1)) (st (st k 28 n v) 29 n (-1)) = some k2 ∧ (∀ j, j < 16 → gt k2 28 j = (if j = 0 then 1 else 0) ∧ gt k2 29 j = -1) ∧ ∀ j, j ≠ 28 → j ≠ 29 → k2.1 j = k.1 j := fun v hv => by
        obtain ⟨k2, a1, a2, a3⟩ := ih (n + 1) (st (st k 28 n v) 29 n (-1)) (by omega) (by omega) (fun j hj => by
          rw [gt_st_k (show 28 ≠ 29 by omega)]
          by_cases q : j = n
          · rw [q, gt_st_same, gt_st_same]; exact ⟨hv, rfl⟩
          · rw [gt_st_i q, gt_st_i q, gt_st_k (by omega)]; exact h3 j (by omega))
        exact ⟨k2, a1, a2, fun j x y => by rw [a3 j x y, st_row_ne y, st_row_ne x]⟩
      by_cases c : n = 0
      · rw [if_pos (show nI n = (0 : Int32) by rw [c]; rfl)]; exact go 1 (by rw [if_pos c])
      · rw [if_neg (show ¬ nI n = (0 : Int32) from fun z => c (nI_inj (b := 0) (by omega) (by omega) z))]; exact go 0 (by rw [if_neg c])
    · rw [if_pos (show (16 : Int32) ≤ nI n from (nI_leI (a := 16) (by omega) (by omega)).mpr (by omega))]
      exact ⟨k, rfl, fun j hj => h3 j (by omega), fun _ _ _ => rfl⟩
theorem sb22 {kk : St → Option St} : ∀ (fu i : Nat) (k : St), i ≤ 32 → 32 < i + fu → (∀ j, j < i → gt k 26 j = 1) → ∃ k2, Ss_begin_L22 kk fu (nI i) k = kk k2 ∧ (∀ j, j < 32 → gt k2 26 j = 1) ∧ ∀ j, j ≠ 26 → k2.1 j = k.1 j := by
  intro fu
  induction fu with
  | zero => intro i m h1 h2; omega
  | succ fu ih =>
    intro i m h1 h2 h3
    rw [Ss_begin_L22]; unfold Ss_begin_B22
    by_cases e : i < 32
    · rw [if_neg (show ¬ (32 : Int32) ≤ nI i from fun z => by have := (nI_leI (a := 32) (by omega) (by omega)).mp z; omega), nar1, wr_n (by omega) (by omega), b1_some, nI_1]
      obtain ⟨m2, a1, a2, a3⟩ := ih (i + 1) (st m 26 i 1) (by omega) (by omega) (fun j hj => by
        by_cases q : j = i
        · rw [q, gt_st_same]
        · rw [gt_st_i q]; exact h3 j (by omega))
      exact ⟨m2, a1, a2, fun j x => by rw [a3 j x, st_row_ne x]⟩
    · rw [if_pos (show (32 : Int32) ≤ nI i from (nI_leI (a := 32) (by omega) (by omega)).mpr (by omega))]
      exact ⟨m, rfl, fun j hj => h3 j (by omega), fun _ _ => rfl⟩
theorem sb43 {kk : St → Option St} : ∀ (fu i : Nat) (k : St), i ≤ 64 → 64 < i + fu → (∀ j, j < i → gt k 27 j = 0) → ∃ k2, Ss_begin_L43 kk fu (nI i) k = kk k2 ∧ (∀ j, j < 64 → gt k2 27 j = 0) ∧ ∀ j, j ≠ 27 → k2.1 j = k.1 j := by
  intro fu
  induction fu with
  | zero => intro i m h1 h2; omega
  | succ fu ih =>
    intro i m h1 h2 h3
    rw [Ss_begin_L43]; unfold Ss_begin_B43
    by_cases e : i < 64
    · rw [if_neg (show ¬ (64 : Int32) ≤ nI i from fun z => by have := (nI_leI (a := 64) (by omega) (by omega)).mp z; omega), nar0, wr_n (by omega) (by omega), b1_some, nI_1]
      obtain ⟨m2, a1, a2, a3⟩ := ih (i + 1) (st m 27 i 0) (by omega) (by omega) (fun j hj => by
        by_cases q : j = i
        · rw [q, gt_st_same]
        · rw [gt_st_i q]; exact h3 j (by omega))
      exact ⟨m2, a1, a2, fun j x => by rw [a3 j x, st_row_ne x]⟩
    · rw [if_pos (show (64 : Int32) ≤ nI i from (nI_leI (a := 64) (by omega) (by omega)).mpr (by omega))]
      exact ⟨m, rfl, fun j hj => h3 j (by omega), fun _ _ => rfl⟩
theorem begin_e (k : St) : ∃ k2, Ss_begin k = some k2 ∧ gt k2 19 0 = 0 ∧ (∀ l, l < 32 → gt k2 25 l = gt k 4 l ∧ gt k2 26 l = 1) ∧ (∀ i, i < 64 → gt k2 27 i = 0) ∧ (∀ n, n < 16 → gt k2 28 n = (if n = 0 then 1 else 0) ∧ gt k2 29 n = -1) ∧ ∀ j, j ≠ 19 → j ≠ 25 → j ≠ 26 → j ≠ 27 → j ≠ 28 → j ≠ 29 → k2.1 j = k.1 j := by
  unfold Ss_begin
  rw [lt_e, lt_e]
  obtain ⟨k1, hk1⟩ : ∃ k1, k1 = cpI (st k 19 0 0) 4 25 32 := ⟨_, rfl⟩
  rw [← hk1]
  obtain ⟨k2, a1, a2, a3⟩ := sb22 (kk := fun q5 => Ss_begin_L43 (fun q8 => b1 (Ss_clearTree q8) fun q9 => some q9) FU (0 : Int32) q5) FU 0 k1 (by omega) (by rw [FU_e]; omega) (fun j hj => by omega)
  have a1 : Ss_begin_L22 _ FU 0 k1 = _ := a1
  rw [a1]
  obtain ⟨k3, b1', b2', b3'⟩ := sb43 (kk := fun q8 => b1 (Ss_clearTree q8) fun q9 => some q9) FU 0 k2 (by omega) (by rw [FU_e]; omega) (fun j hj => by omega)
  have b1' : Ss_begin_L43 _ FU 0 k2 = _ := b1'
  rw [b1']
  obtain ⟨k4, c1, c2, c3⟩ := ct2 FU 0 k3 (by omega) (by rw [FU_e]; omega) (fun j hj => by omega)
  have c1 : Ss_clearTree k3 = some k4 := c1
  show ∃ k5, (b1 (Ss_clearTree k3) fun q9 => some q9) = some k5 ∧ _
  rw [c1, b1_some]
  refine ⟨k4, rfl, ?_, fun l hl => ⟨?_, ?_⟩, fun i hi => ?_, c2, fun j x1 x2 x3 x4 x5 x6 => ?_⟩
  · rw [gt_e, c3 19 (by omega) (by omega), b3' 19 (by omega), a3 19 (by omega), hk1, cp_ne (by omega)]; exact gt_st_same
  · rw [gt_e, c3 25 (by omega) (by omega), b3' 25 (by omega), a3 25 (by omega), hk1, cp_at hl, st_row_ne (by omega)]; rfl
  · rw [gt_e, c3 26 (by omega) (by omega), b3' 26 (by omega)]; exact a2 l hl
  · rw [gt_e, c3 27 (by omega) (by omega)]; exact b2' i hi
  · rw [c3 j x5 x6, b3' j x4, a3 j x3, hk1, cp_ne x2, st_row_ne x1]
theorem copyS_e (k : St) : ∃ k2, Su_copyFrom k = some k2 ∧ (∀ i, i < 4 → gt k2 1 i = gt k 10 i) ∧ (∀ i, i < 32 → gt k2 2 i = gt k 11 i) ∧ (∀ i, i < 32 → gt k2 3 i = gt k 12 i) ∧ (∀ i, i < 32 → gt k2 4 i = gt k 13 i) ∧ (∀ i, i < 32 → gt k2 5 i = gt k 14 i) ∧ (∀ i, i < 256 → gt k2 6 i = gt k 15 i) ∧ (∀ i, i < 16 → gt k2 7 i = gt k 16 i) ∧ (∀ i, i < 4 → gt k2 8 i = gt k 17 i) ∧ (∀ i, i < 24 → gt k2 9 i = gt k 18 i) ∧ ∀ j, j = 0 ∨ 9 < j → k2.1 j = k.1 j := by
  unfold Su_copyFrom
  rw [lt_e, lt_e, lt_e, lt_e, lt_e, lt_e, lt_e, lt_e, lt_e, lt_e, lt_e, lt_e]
  refine ⟨_, rfl, fun i hi => ?_, fun i hi => ?_, fun i hi => ?_, fun i hi => ?_, fun i hi => ?_, fun i hi => ?_, fun i hi => ?_, fun i hi => ?_, fun i hi => ?_, fun j hj => ?_⟩
  · rw [gt_e, cp_ne (by omega), cp_ne (by omega), cp_ne (by omega), cp_ne (by omega), cp_ne (by omega), cp_ne (by omega), cp_ne (by omega), cp_ne (by omega)]
    show gt (st (st (st (st k 1 0 (gt k 10 0)) 1 1 (gt k 10 1)) 1 2 (gt k 10 2)) 1 3 (gt k 10 3)) 1 i = _
    by_cases c3 : i = 3
    · rw [c3, gt_st_same]
    · rw [gt_st_i c3]
      by_cases c2 : i = 2
      · rw [c2, gt_st_same]
      · rw [gt_st_i c2]
        by_cases c1 : i = 1
        · rw [c1, gt_st_same]
        · rw [gt_st_i c1, show i = 0 by omega, gt_st_same]
  · rw [gt_e, cp_ne (by omega), cp_ne (by omega), cp_ne (by omega), cp_ne (by omega), cp_ne (by omega), cp_ne (by omega), cp_ne (by omega), cp_at hi, st_row_ne (by omega), st_row_ne (by omega), st_row_ne (by omega), st_row_ne (by omega)]; rfl
  · rw [gt_e, cp_ne (by omega), cp_ne (by omega), cp_ne (by omega), cp_ne (by omega), cp_ne (by omega), cp_ne (by omega), cp_at hi, cp_ne (by omega), st_row_ne (by omega), st_row_ne (by omega), st_row_ne (by omega), st_row_ne (by omega)]; rfl
  · rw [gt_e, cp_ne (by omega), cp_ne (by omega), cp_ne (by omega), cp_ne (by omega), cp_ne (by omega), cp_at hi, cp_ne (by omega), cp_ne (by omega), st_row_ne (by omega), st_row_ne (by omega), st_row_ne (by omega), st_row_ne (by omega)]; rfl
  · rw [gt_e, cp_ne (by omega), cp_ne (by omega), cp_ne (by omega), cp_ne (by omega), cp_at hi, cp_ne (by omega), cp_ne (by omega), cp_ne (by omega), st_row_ne (by omega), st_row_ne (by omega), st_row_ne (by omega), st_row_ne (by omega)]; rfl
  · rw [gt_e, cp_ne (by omega), cp_ne (by omega), cp_ne (by omega), cp_at hi, cp_ne (by omega), cp_ne (by omega), cp_ne (by omega), cp_ne (by omega), st_row_ne (by omega), st_row_ne (by omega), st_row_ne (by omega), st_row_ne (by omega)]; rfl
  · rw [gt_e, cp_ne (by omega), cp_ne (by omega), cp_at hi, cp_ne (by omega), cp_ne (by omega), cp_ne (by omega), cp_ne (by omega), cp_ne (by omega), st_row_ne (by omega), st_row_ne (by omega), st_row_ne (by omega), st_row_ne (by omega)]; rfl
  · rw [gt_e, cp_ne (by omega), cp_at hi, cp_ne (by omega), cp_ne (by omega), cp_ne (by omega), cp_ne (by omega), cp_ne (by omega), cp_ne (by omega), st_row_ne (by omega), st_row_ne (by omega), st_row_ne (by omega), st_row_ne (by omega)]; rfl
  · rw [gt_e, cp_at hi, cp_ne (by omega), cp_ne (by omega), cp_ne (by omega), cp_ne (by omega), cp_ne (by omega), cp_ne (by omega), cp_ne (by omega), st_row_ne (by omega), st_row_ne (by omega), st_row_ne (by omega), st_row_ne (by omega)]; rfl
  · rw [cp_ne (by omega), cp_ne (by omega), cp_ne (by omega), cp_ne (by omega), cp_ne (by omega), cp_ne (by omega), cp_ne (by omega), cp_ne (by omega), st_row_ne (by omega), st_row_ne (by omega), st_row_ne (by omega), st_row_ne (by omega)]
theorem SK.copy {A : Ab} {F L : Nat} {k k2 : St} (hw : WX A F L) (h : SK A F L k 10) (e : Su_copyFrom k = some k2) : SK A F L k2 1 ∧ ∀ j, j = 0 ∨ 9 < j → k2.1 j = k.1 j := by
  obtain ⟨k3, a0, a1, a2, a3, a4, a5, a6, a7, a8, a9, a10⟩ := copyS_e k
  rw [e] at a0
  cases a0
  obtain ⟨⟨s0, s1, s2, s3⟩, s4, s5, s6, s7, s8⟩ := h
  obtain ⟨⟨⟨w1, w2, w3⟩, _⟩, _, _, x3⟩ := hw
  exact ⟨⟨⟨(a1 0 (by omega)).trans s0, (a1 1 (by omega)).trans s1, (a1 2 (by omega)).trans s2, (a1 3 (by omega)).trans s3⟩, fun l hl => ⟨(a2 l (by omega)).trans (s4 l hl).1, (a3 l (by omega)).trans (s4 l hl).2.1, (a4 l (by omega)).trans (s4 l hl).2.2.1, (a5 l (by omega)).trans (s4 l hl).2.2.2⟩, fun a b ha hb => ⟨fun l hl => (a6 _ (by omega)).trans ((s5 a b ha hb).1 l hl), fun z => (a6 _ (by omega)).trans ((s5 a b ha hb).2 z)⟩, fun n hn => (a7 n hn).trans (s6 n hn), fun f p q => (a8 f (by omega)).trans (s7 f p q), fun f j p q => (a9 _ (by omega)).trans (s8 f j p q)⟩, a10⟩
theorem SK.rks {A : Ab} {F L : Nat} {k : St} (hw : WX A F L) (h : SK A F L k 1) : RKs (fin A F L) k := by
  have hs : WFs (fin A F L) := (fin_WFg hw).1.1
  obtain ⟨⟨s0, s1, s2, s3⟩, s4, s5, s6, s7, s8⟩ := h
  have e : ∀ a j, a < 8 → (a ≠ 0 ∨ j < 2) → fin A F L a j = A a j := fun a j x y => by rw [fin_ne (by omega), pre_s x y]
  have e2 : fin A F L 0 2 = F := by rw [fin_ne (by omega)]; rfl
  have e3 : fin A F L 0 3 = L := by rw [fin_ne (by omega)]; rfl
  have eL : ∀ a b l, Lk (fin A F L) a b l ↔ Lk A a b l := fun a b l => by
    unfold Lk; rw [e 0 1 (by omega) (by omega), e 1 _ (by omega) (by omega), e 2 _ (by omega) (by omega)]
  refine ⟨⟨?_, ?_, ?_, ?_⟩, fun l hl => ?_, fun a b ha hb => ?_, fun n hn => ?_, fun f p q => ?_, fun f j p q => ?_⟩
  · rw [e 0 0 (by omega) (by omega)]; exact s0
  · rw [e 0 1 (by omega) (by omega)]; exact s1
  · rw [e2]; exact s2
  · rw [e3]; exact s3
  · rw [e 0 1 (by omega) (by omega)] at hl
    rw [e 1 _ (by omega) (by omega), e 2 _ (by omega) (by omega), e 3 _ (by omega) (by omega)]
    obtain ⟨q1, q2, q3, q4⟩ := s4 l hl
    exact ⟨q1, q2, q4⟩
  · by_cases c : lq (fin A F L) a b = 1
    · rw [if_pos c]; exact (s5 a b ha hb).1 _ ((eL a b _).mp (lq_iff.mp c))
    · rw [if_neg c]; exact (s5 a b ha hb).2 (fun l z => c (lq_of hs ((eL a b l).mpr z)))
  · rw [e 4 _ (by omega) (by omega)]; exact s6 n hn
  · rw [e2] at q
    rw [e 5 _ (by omega) (by omega)]; exact s7 f p q
  · rw [e2] at p; rw [e3] at q
    rw [rt_c (A := A) j (fun i hi => e 6 _ (by omega) (by omega))]; exact s8 f j p q
theorem begin_rk {A : Ab} {F L : Nat} {k : St} (hw : WX A F L) (h : SK A F L k 1) (hB : ∀ i, i < 21 → Bz (gt k 24 i)) : ∃ k2, Ss_begin k = some k2 ∧ RK (fin A F L) sI (fin A F L 0 4) k2 ∧ ∀ j, j < 19 ∨ 29 < j → k2.1 j = k.1 j := by
  obtain ⟨k2, a0, a1, a2, a3, a4, a5⟩ := begin_e k
  have e : ∀ a j, a < 8 → (a ≠ 0 ∨ j < 2) → fin A F L a j = A a j := fun a j x y => by rw [fin_ne (by omega), pre_s x y]
  have e4 : fin A F L 0 4 = 0 := by rw [fin_ne (by omega)]; rfl
  refine ⟨k2, a0, ⟨RKs_row (fun j hj => a5 j (by omega) (by omega) (by omega) (by omega) (by omega) (by omega)) (h.rks hw), ?_, fun r hr => ?_, fun l hl => ?_, fun n f hn hf => ?_, fun n hn => ?_, fun i hi => ?_, fun i hi => ?_⟩, fun j hj => a5 j (by omega) (by omega) (by omega) (by omega) (by omega) (by omega)⟩
  · rw [e4]; exact a1
  · rw [e4] at hr; omega
  · rw [e 0 1 (by omega) (by omega)] at hl
    have h32 := hw.1.1.2.2
    refine ⟨?_, ?_⟩
    · rw [e 7 _ (by omega) (by omega)]; exact (a2 l (by omega)).1.trans (h.2.1 l hl).2.2.1
    · rw [fin_ne (by omega), pre_8]; exact (a2 l (by omega)).2
  · rw [fin_ne (by omega), pre_z (by omega) (by omega)]; exact a3 _ (by omega)
  · rw [fin_10 hn]
    by_cases c : n = 0
    · rw [if_pos c]
      refine ⟨(a4 n hn).1.trans (by rw [if_pos c, if_neg (by omega)]), (a4 n hn).2⟩
    · rw [if_neg c]
      refine ⟨(a4 n hn).1.trans (by rw [if_neg c, if_pos rfl]), (a4 n hn).2⟩
  · have : gt k2 24 i = gt k 24 i := by rw [gt_e, a5 24 (by omega) (by omega) (by omega) (by omega) (by omega) (by omega)]; rfl
    have hb := hB i hi
    rw [← this] at hb
    exact hb
  · exact Or.inr (a2 i hi).2
theorem RKs_rw {A : Ab} {k k2 : St} (h : ∀ j, 1 ≤ j → j < 10 → k2.1 j = k.1 j) (hr : RKs A k) : RKs A k2 := by
  have e : ∀ j i, 1 ≤ j → j < 10 → gt k2 j i = gt k j i := fun j i x hj => by rw [gt_e, h j x hj]; rfl
  obtain ⟨h1, h2, h3, h4, h5, h6⟩ := hr
  refine ⟨?_, fun l hl => ?_, fun a b ha hb => ?_, fun n hn => ?_, fun f h1 hf => ?_, fun f j hf hj => ?_⟩
  · rw [e 1 0 (by omega) (by omega), e 1 1 (by omega) (by omega), e 1 2 (by omega) (by omega), e 1 3 (by omega) (by omega)]; exact h1
  · rw [e 2 l (by omega) (by omega), e 3 l (by omega) (by omega), e 5 l (by omega) (by omega)]; exact h2 l hl
  · rw [e 6 _ (by omega) (by omega)]; exact h3 a b ha hb
  · rw [e 7 n (by omega) (by omega)]; exact h4 n hn
  · rw [e 8 f (by omega) (by omega)]; exact h5 f h1 hf
  · rw [e 9 _ (by omega) (by omega)]; exact h6 f j hf hj
theorem sp_load : Sp_load Inv := by
  intro k m hI
  obtain ⟨A0, hG, hR, hK, ⟨t1, t2, T, t3, t4, t5, t6⟩, hH⟩ := hI
  obtain ⟨B, hB⟩ : ∃ B : Nat → Nat, ∀ i, i < T → B i < 256 ∧ gt k 154 i = nI (B i) ∧ gt m 1 i = (nI (B i)).toInt8.toInt32 :=
    Classical.axiomOfChoice (r := fun i b => i < T → b < 256 ∧ gt k 154 i = nI b ∧ gt m 1 i = (nI b).toInt8.toInt32) (fun i => by
      by_cases c : i < T
      · obtain ⟨b, hb⟩ := t6 i c; exact ⟨b, fun _ => hb⟩
      · exact ⟨0, fun z => absurd z c⟩)
  have hT : TB T B k (st m 0 2 (-2)) := ⟨t3, by rw [gt_st_i (by omega)]; exact t4, t5, fun i hi => by rw [gt_st_k (by omega)]; exact hB i hi⟩
  unfold K_load M_load
  rw [lt_e]
  rcases setup_both hT t2 with ⟨A, F, L, k2, m2, e1, e2, e3, e4, e5, e6, e7⟩ | ⟨k2, m2, e1, e2, e3, e4, e5, e6⟩
  · rw [e1, b2_some, lt_e, if_neg (show ¬ (1 : Int32) = 0 by decide), lt_e, e2, b1_some, lt_e, gt_st_i (show 11 ≠ 1 by omega), e4, if_neg (show ¬ (1 : Int32) = 0 by decide)]
    obtain ⟨hw, hS, hs⟩ := e3.all
    have hS2 : SM A F L (st m2 0 1 0) := by
      have g : ∀ i, gt (st m2 0 1 0) 3 i = gt m2 3 i := fun i => gt_st_k (by omega)
      obtain ⟨⟨s0, s1, s2, s3⟩, s4, s5, s6, s7⟩ := hS
      exact ⟨⟨by rw [g]; exact s0, by rw [g]; exact s1, by rw [g]; exact s2, by rw [g]; exact s3⟩, fun l hl => by rw [g, g, g, g]; exact s4 l hl, fun n hn => by rw [g]; exact s5 n hn, fun f hf => by rw [g]; exact s6 f hf, fun f j p q => by rw [g]; exact s7 f j p q⟩
    obtain ⟨m3, d1, d2, d3, d4, d5⟩ := takes_draft hw hS2
    rw [d1, b1_some, rdz (by omega) (by omega), b1_some]
    obtain ⟨k3, hk3⟩ : ∃ k3, k3 = st (st k2 153 1 0) 0 12 (-2) := ⟨_, rfl⟩
    rw [← hk3]
    have r3 : ∀ j, j ≠ 0 → j ≠ 153 → k3.1 j = k2.1 j := fun j x y => by rw [hk3, st_row_ne x, st_row_ne y]
    have hs3 : SK A F L k3 10 := by
      have g : ∀ j i, j ≠ 0 → j ≠ 153 → gt k3 j i = gt k2 j i := fun j i x y => by rw [gt_e, r3 j x y]; rfl
      obtain ⟨⟨s0, s1, s2, s3⟩, s4, s5, s6, s7, s8⟩ := hs
      exact ⟨⟨by rw [g _ _ (by omega) (by omega)]; exact s0, by rw [g _ _ (by omega) (by omega)]; exact s1, by rw [g _ _ (by omega) (by omega)]; exact s2, by rw [g _ _ (by omega) (by omega)]; exact s3⟩, fun l hl => by rw [g _ _ (by omega) (by omega), g _ _ (by omega) (by omega), g _ _ (by omega) (by omega), g _ _ (by omega) (by omega)]; exact s4 l hl, fun a b ha hb => by rw [g _ _ (by omega) (by omega)]; exact s5 a b ha hb, fun n hn => by rw [g _ _ (by omega) (by omega)]; exact s6 n hn, fun f p q => by rw [g _ _ (by omega) (by omega)]; exact s7 f p q, fun f j p q => by rw [g _ _ (by omega) (by omega)]; exact s8 f j p q⟩
    obtain ⟨k4, c1, _⟩ := copyS_e k3
    obtain ⟨hs4, r4⟩ := hs3.copy hw c1
    rw [c1, b1_some]
    have hB24 : ∀ i, i < 21 → Bz (gt k4 24 i) := fun i hi => by
      rw [gt_e, r4 24 (by omega), r3 24 (by omega) (by omega), e6 24 (by omega) (by omega)]
      exact hK.2.2.2.2.2.2.1 i hi
    obtain ⟨k5, f1, f2, f3⟩ := begin_rk hw hs4 hB24
    rw [f1, b1_some]
    unfold Hi_forget
    rw [lt_e, b1_some]
    have r5 : ∀ j, j = 18 ∨ 29 < j → j ≠ 153 → k5.1 j = k2.1 j := fun j x y => by rw [f3 j (by omega), r4 j (by omega), r3 j (by omega) y]
    have hRK : RK (fin A F L) sI (fin A F L 0 4) (st k5 41 1 0) := ⟨RKs_row (fun j hj => st_row_ne (by omega)) f2.1, RKw_row (fun j x y => st_row_ne (by omega)) f2.2⟩
    have hv : gt (st k5 41 1 0) 1 0 = gt m3 2 0 := by
      rw [hRK.1.1.1]; exact d2.1.1.1.symm
    refine ⟨gt m3 2 0, st k5 41 1 0, m3, by rw [hv], rfl, fin A F L, fin_WFg hw, d2, hRK, ⟨?_, fun f hf => ?_, 0, by omega, ?_, ?_, fun i hi => by omega⟩, ?_⟩
    · rw [gt_st_k (by omega), gt_e, f3 0 (by omega), r4 0 (by omega), gt_e, d5 2 (by omega)]
      show gt k3 0 12 = gt (st m2 0 1 0) 0 2
      rw [hk3, gt_st_same, gt_st_i (by omega), e5, gt_st_same]
    · rw [gt_st_k (by omega), gt_e, r5 18 (by omega) (by omega)]; exact e3.2.2.2.2.2.2 f hf
    · rw [gt_e, d5 1 (by omega)]; exact gt_st_same
    · rw [gt_st_k (by omega), gt_e, f3 153 (by omega), r4 153 (by omega), hk3, st_row_ne (by omega)]; exact gt_st_same
    · obtain ⟨U, nx, H, u1, u2, u3, u4, u5, u6⟩ := hH
      refine ⟨0, nx, H, by omega, u2, d3, gt_st_same, ?_, fun j hj => by omega⟩
      rw [gt_st_i (by omega), gt_e, r5 41 (by omega) (by omega), e6 41 (by omega) (by omega)]; exact u5
  · rw [e1, b2_some, lt_e, if_pos rfl, lt_e, e2, b1_some, lt_e, gt_st_i (show 11 ≠ 1 by omega), e3.1, if_pos rfl]
    refine ⟨-1, _, _, rfl, rfl, A0, hG, RM_row ?_ ?_ hR, ⟨RKs_rw ?_ hK.1, RKw_row (fun j x y => ?_) hK.2⟩, ⟨?_, fun f hf => ?_, 0, by omega, ?_, ?_, fun i hi => by omega⟩, hH.row (fun j x y => ?_) ?_ ?_⟩
    · rw [st_row_ne (by omega), e6.1 2 (by omega) (by omega), st_row_ne (by omega)]
    · rw [st_row_ne (by omega), e6.1 4 (by omega) (by omega), st_row_ne (by omega)]
    · intro j x y; rw [st_row_ne (by omega), st_row_ne (by omega), e5 j (by omega) (by omega)]
    · rw [st_row_ne (by omega), st_row_ne (by omega), e5 j (by omega) (by omega)]
    · rw [gt_st_same, gt_st_k (by omega), gt_st_i (by omega)]; exact e3.2.symm
    · rw [gt_st_k (by omega), gt_st_k (by omega)]; exact e4 f hf
    · exact gt_st_same
    · rw [gt_st_k (by omega)]; exact gt_st_same
    · rw [st_row_ne (by omega), st_row_ne (by omega), e5 j (by omega) (by omega)]
    · rw [st_row_ne (by omega), e6.1 6 (by omega) (by omega), st_row_ne (by omega)]
    · rw [st_row_same, upd_e, if_neg (by omega), e6.2 15 (by omega), st_row_same, upd_e, if_neg (by omega)]
