/-! ===== PHASE B: plain questions ===== -/
theorem sp_errorPosition : Sp_errorPosition Inv := fun k m ⟨_, _, _, _, hT, _⟩ => ⟨_, rfl, by unfold M_errorPosition; rw [hT.1]⟩
theorem sp_tapeLength : Sp_tapeLength Inv := fun k m ⟨_, _, _, _, hT, _⟩ => by
  obtain ⟨_, _, T, _, h2, h3, _⟩ := hT
  exact ⟨nI T, by unfold K_tapeLength; rw [h3], by unfold M_tapeLength; rw [h2]⟩
theorem sp_nodes : Sp_nodes Inv := fun k m ⟨A, _, hR, hK, _, _⟩ => ⟨nI (A 0 0), by unfold K_nodes; rw [hK.n0], by unfold M_nodes; rw [rd_at 0 li0 (by omega) (by omega), b1_some, hR.g0]⟩
theorem sp_links : Sp_links Inv := fun k m ⟨A, _, hR, hK, _, _⟩ => ⟨nI (A 0 1), by unfold K_links; rw [hK.n1], by unfold M_links; rw [rd_at 1 li1 (by omega) (by omega), b1_some, hR.g1]⟩
theorem sp_formats : Sp_formats Inv := fun k m ⟨A, _, hR, hK, _, _⟩ => ⟨nI (A 0 2), by unfold K_formats; rw [hK.n2], by unfold M_formats; rw [rd_at 2 li2 (by omega) (by omega), b1_some, hR.g2]⟩
theorem sp_layers : Sp_layers Inv := fun k m ⟨A, _, hR, hK, _, _⟩ => ⟨nI (A 0 3), by unfold K_layers; rw [hK.n3], by unfold M_layers; rw [rd_at 3 li3 (by omega) (by omega), b1_some, hR.g3]⟩
theorem sp_receivers : Sp_receivers Inv := fun k m ⟨A, _, hR, hK, _, _⟩ => ⟨nI (A 0 4), by unfold K_receivers; rw [hK.rcv], by unfold M_receivers; rw [rd_at 96 li96 (by omega) (by omega), b1_some, hR.rcv]⟩
theorem sp_rate : Sp_rate Inv := by
  intro k m v1 v2 hI
  obtain ⟨A, hG, hR, hK, hT, hH⟩ := hI
  have hN := hG.1.1.1
  unfold K_rate M_rate
  rcases format_c hG hR hK v1 with ⟨f, f1, f2, f3, f4⟩ | ⟨_, f3, f4⟩
  · rcases level_c hG hR hK v2 with ⟨w, w0, w1, w2, w3, w4⟩ | ⟨w3, w4⟩
    · simp only [b1_some, b2_some, lt_e, o10, eq_self, ↓reduceIte, f3, f4, w3, w4]
      unfold Su_rateOf
      rw [f2, w2, li6]
      simp (disch := omega) only [b1_some, b2_some, lt_e, rd_n, wr_n, nI_add, pk_mul, nI_leI, nI_ltI, nI_eq, nI_1]
      rw [hK.rate f1 w1, M_rateOf_e hG.1.1 hR f1 w1, b1_some]
      exact ⟨_, rfl, rfl⟩
    · simp only [b1_some, b2_some, lt_e, o10, eq_self, ↓reduceIte, f3, f4, w3, w4]
      exact ⟨-1, rfl, rfl⟩
  · simp only [b1_some, b2_some, lt_e, o10, eq_self, ↓reduceIte, f3, f4]
    exact ⟨-1, rfl, rfl⟩
theorem sp_linkBetween : Sp_linkBetween Inv := by
  intro k m v1 v2 hI
  obtain ⟨A, hG, hR, hK, hT, hH⟩ := hI
  have hN := hG.1.1.1
  unfold K_linkBetween M_linkBetween
  rcases node_c hG hR hK v1 with ⟨a, a1, a2, a3, a4⟩ | ⟨a3, a4⟩
  · rcases node_c hG hR hK v2 with ⟨b, b1', b2', b3', b4'⟩ | ⟨b3', b4'⟩
    · simp only [b1_some, b2_some, lt_e, o10, eq_self, ↓reduceIte, a3, a4, b3', b4']
      rw [a2, b2', li16]
      simp (disch := omega) only [b1_some, b2_some, lt_e, rd_n, wr_n, nI_add, pk_mul, nI_leI, nI_ltI, nI_eq, nI_1]
      rw [hK.at (by omega) (by omega), M_linkAt_q hG.1.1 hR (by omega) (by omega), b1_some]
      by_cases c : lq A a b = 1
      · have := (lq_iff.mp c).1
        rw [if_pos c, if_neg (nI_neg1 (by omega)), if_pos c]
        exact ⟨_, rfl, rfl⟩
      · rw [if_neg c, if_pos rfl, if_neg c]
        exact ⟨_, rfl, rfl⟩
    · simp only [b1_some, b2_some, lt_e, o10, eq_self, ↓reduceIte, a3, a4, b3', b4']
      exact ⟨-1, rfl, rfl⟩
  · simp only [b1_some, b2_some, lt_e, o10, eq_self, ↓reduceIte, a3, a4]
    exact ⟨-1, rfl, rfl⟩
theorem sp_capacity : Sp_capacity Inv := by
  intro k m v1 hI
  obtain ⟨A, hG, hR, hK, hT, hH⟩ := hI
  have hN := hG.1.1.1
  unfold K_capacity M_capacity
  rcases link_c hG hR hK v1 with ⟨l, a1, a2, a3, a4⟩ | ⟨a3, a4⟩
  · simp only [b1_some, b2_some, lt_e, o10, eq_self, ↓reduceIte, a3, a4]
    rw [a2, li0, nI_add, Nat.zero_add, rd_n (by omega) (by omega), b1_some, rd_n (by omega) (by omega), b1_some, hK.cap a1, hR.cap a1]
    exact ⟨_, rfl, rfl⟩
  · simp only [b1_some, b2_some, lt_e, o10, eq_self, ↓reduceIte, a3, a4]
    exact ⟨-1, rfl, rfl⟩
theorem sp_isOpen : Sp_isOpen Inv := by
  intro k m v1 hI
  obtain ⟨A, hG, hR, hK, hT, hH⟩ := hI
  have hN := hG.1.1.1
  unfold K_isOpen M_isOpen
  rcases link_c hG hR hK v1 with ⟨l, a1, a2, a3, a4⟩ | ⟨a3, a4⟩
  · simp only [b1_some, b2_some, lt_e, o10, eq_self, ↓reduceIte, a3, a4]
    have hop := (hG.1.2.2.1.1 l a1).2
    rw [a2, li32, nI_add, rd_n (by omega) (by omega), b1_some, rd_n (by omega) (by omega), b1_some, hK.opn a1, hR.opn a1]
    rcases (show A 8 l = 0 ∨ A 8 l = 1 by omega) with c | c
    · rw [c, if_pos nI_0, if_neg (by decide)]; exact ⟨0, rfl, rfl⟩
    · rw [c, if_neg (by decide), if_pos (by decide)]; exact ⟨1, rfl, rfl⟩
  · simp only [b1_some, b2_some, lt_e, o10, eq_self, ↓reduceIte, a3, a4]
    exact ⟨0, rfl, rfl⟩
theorem sp_hasLeft : Sp_hasLeft Inv := by
  intro k m v1 hI
  obtain ⟨A, hG, hR, hK, hT, hH⟩ := hI
  have h4 := hG.2.1.1
  unfold K_hasLeft M_hasLeft
  rw [rd_at 96 li96 (by omega) (by omega), b1_some, hR.rcv]
  rcases added_c hG hR hK v1 with ⟨r, a1, a2, a3, a4⟩ | ⟨a3, a4⟩
  · simp only [b1_some, b2_some, lt_e, o10, eq_self, ↓reduceIte, a3, a4]
    have hop := (hG.2.1.2.1 r a1).2.2.2.2
    rw [a2, M_of4 hR (by omega), b1_some, rd_n (by omega) (by omega), b1_some, show gt k 24 r = nI (A 15 r) from hK.lf a1]
    rcases (show A 15 r = 0 ∨ A 15 r = 1 by omega) with c | c
    · rw [c, if_pos nI_0, if_neg (by decide)]; exact ⟨0, rfl, rfl⟩
    · rw [c, if_neg (by decide), if_pos (by decide)]; exact ⟨1, rfl, rfl⟩
  · simp only [b1_some, b2_some, lt_e, o10, eq_self, ↓reduceIte, a3, a4]
    exact ⟨0, rfl, rfl⟩
theorem sp_level : Sp_level Inv := by
  intro k m v1 hI
  obtain ⟨A, hG, hR, hK, hT, hH⟩ := hI
  have h4 := hG.2.1.1
  unfold K_level M_level
  rw [rd_at 96 li96 (by omega) (by omega), b1_some, hR.rcv]
  rcases added_c hG hR hK v1 with ⟨r, a1, a2, a3, a4⟩ | ⟨a3, a4⟩
  · simp only [b1_some, b2_some, lt_e, o10, eq_self, ↓reduceIte, a3, a4]
    rw [a2, M_of3 hR (by omega), b1_some, rd_n (by omega) (by omega), b1_some, show gt k 23 r = nI (A 14 r) from hK.lv a1]
    exact ⟨_, rfl, rfl⟩
  · simp only [b1_some, b2_some, lt_e, o10, eq_self, ↓reduceIte, a3, a4]
    exact ⟨-1, rfl, rfl⟩
theorem sp_wanted : Sp_wanted Inv := by
  intro k m v1 hI
  obtain ⟨A, hG, hR, hK, hT, hH⟩ := hI
  have h4 := hG.2.1.1
  unfold K_wanted M_wanted
  rcases recv_c hG hR hK v1 with ⟨r, r1, r2, r3, r4, r5⟩ | ⟨r4, r5⟩
  · simp only [b1_some, b2_some, lt_e, o10, eq_self, ↓reduceIte, r4, r5]
    rw [r3, M_of2 hR (by omega), b1_some, rd_n (by omega) (by omega), b1_some, show gt k 22 r = nI (A 13 r) from hK.wa r1]
    exact ⟨_, rfl, rfl⟩
  · simp only [b1_some, b2_some, lt_e, o10, eq_self, ↓reduceIte, r4, r5]
    exact ⟨-1, rfl, rfl⟩
theorem sp_servedAt : Sp_servedAt Inv := by
  intro k m v1 hI
  obtain ⟨A, hG, hR, hK, hT, hH⟩ := hI
  have hN := hG.1.1.1
  have h4 := hG.2.1.1
  unfold K_servedAt M_servedAt
  rcases recv_c hG hR hK v1 with ⟨r, r1, r2, r3, r4, r5⟩ | ⟨r4, r5⟩
  · simp only [b1_some, b2_some, lt_e, o10, eq_self, ↓reduceIte, r4, r5]
    have hq := hG.2.1.2.1 r r1
    have h14 := hG.1.l14 r (by omega)
    rw [r3, M_servedBy_e hG.1.1 hG.1.2.1 hG.1.2.2.1 hR hG.1.2.2.2 (by omega) (by omega) (by omega), b1_some, Sp_servingNode_e hG.1 (Sg_sI hG.2.1) hK r1, b1_some]
    show ∃ z, (if (if A 14 r = 0 then -1 else bJ (sv A (A 12 r) (A 11 r))) = -1 then some (-2) else some (if A 14 r = 0 then -1 else bJ (sv A (A 12 r) (A 11 r)))) = some z ∧ some (if A 14 r = 0 ∨ A 12 r = 0 then -2 else svI (sv A (A 12 r) (A 11 r))) = some z
    by_cases c : A 14 r = 0
    · rw [if_pos c, if_pos rfl, if_pos (Or.inl c)]; exact ⟨-2, rfl, rfl⟩
    · have hin := WFr.in hG.1.1 hG.1.2.2.2 (r := r) (by omega) (by omega)
      have hb := sv_bd hG.1.1 hG.1.2.1 (f := A 12 r) _ hin
      rw [if_neg c]
      by_cases d : A 12 r = 0
      · rw [d, sv_nat hG.1 _ hin, if_pos (show bJ 99 = -1 from rfl), if_pos (Or.inr rfl)]
        exact ⟨-2, rfl, rfl⟩
      · rw [if_neg (show ¬ (A 14 r = 0 ∨ A 12 r = 0) from fun z => z.elim c d)]
        by_cases e : sv A (A 12 r) (A 11 r) = 99
        · rw [if_pos ((bJ_no hb).mpr e), show svI (sv A (A 12 r) (A 11 r)) = -2 from if_pos e]
          exact ⟨-2, rfl, rfl⟩
        · rw [if_neg (fun z => e ((bJ_no hb).mp z)), show bJ (sv A (A 12 r) (A 11 r)) = nI (sv A (A 12 r) (A 11 r)) from if_neg e, show svI (sv A (A 12 r) (A 11 r)) = nI (sv A (A 12 r) (A 11 r)) from if_neg e]
          exact ⟨_, rfl, rfl⟩
  · simp only [b1_some, b2_some, lt_e, o10, eq_self, ↓reduceIte, r4, r5]
    exact ⟨-1, rfl, rfl⟩
theorem sp_isInTree : Sp_isInTree Inv := by
  intro k m v1 hI
  obtain ⟨A, hG, hR, hK, hT, hH⟩ := hI
  have hN := hG.1.1.1
  unfold K_isInTree M_isInTree
  rcases node_c hG hR hK v1 with ⟨n, a1, a2, a3, a4⟩ | ⟨a3, a4⟩
  · simp only [b1_some, b2_some, lt_e, o10, eq_self, ↓reduceIte, a3, a4]
    rw [a2, rd_n (by omega) (by omega), b1_some, hK.tin (by omega), M_isIn_e (par_bd hG.1.1 hG.1.2.1) hR (by omega), b1_some]
    by_cases c : A 10 n = 0
    · rw [if_pos c, if_pos rfl]; exact ⟨0, rfl, rfl⟩
    · rw [if_neg c, if_neg (by decide)]; exact ⟨1, rfl, rfl⟩
  · simp only [b1_some, b2_some, lt_e, o10, eq_self, ↓reduceIte, a3, a4]
    exact ⟨0, rfl, rfl⟩
theorem sp_parent : Sp_parent Inv := by
  intro k m v1 hI
  obtain ⟨A, hG, hR, hK, hT, hH⟩ := hI
  have hN := hG.1.1.1
  unfold K_parent M_parent
  rcases node_c hG hR hK v1 with ⟨n, a1, a2, a3, a4⟩ | ⟨a3, a4⟩
  · simp only [b1_some, b2_some, lt_e, o10, eq_self, ↓reduceIte, a3, a4]
    have hb := par_bd hG.1.1 hG.1.2.1 n (by omega)
    rw [a2, rd_n (by omega) (by omega), b1_some, hK.par (by omega), M_up_e hR (by omega), b1_some]
    by_cases c : A 10 n < 2
    · have h1 : pK (A 10 n) = -1 := if_pos c
      have h2 : pI (A 10 n) < 0 := by
        rcases (show A 10 n = 0 ∨ A 10 n = 1 by omega) with z | z
        · rw [z]; decide
        · rw [z]; decide
      rw [if_pos h1, if_pos h2]; exact ⟨-2, rfl, rfl⟩
    · have h1 : pK (A 10 n) = nI (A 10 n - 2) := if_neg c
      have h2 : pI (A 10 n) = nI (A 10 n - 2) := pI_in (by omega)
      rw [h1, h2, if_neg (nI_neg1 (by omega)), if_neg (nI_pos (by omega)), b1_some]; exact ⟨_, rfl, rfl⟩
  · simp only [b1_some, b2_some, lt_e, o10, eq_self, ↓reduceIte, a3, a4]
    exact ⟨-1, rfl, rfl⟩
theorem sp_delay : Sp_delay Inv := by
  intro k m v1 hI
  obtain ⟨A, hG, hR, hK, hT, hH⟩ := hI
  have hN := hG.1.1.1
  unfold K_delay M_delay
  rcases node_c hG hR hK v1 with ⟨n, a1, a2, a3, a4⟩ | ⟨a3, a4⟩
  · simp only [b1_some, b2_some, lt_e, o10, eq_self, ↓reduceIte, a3, a4]
    rw [a2, rd_n (by omega) (by omega), b1_some, hK.tin (by omega), M_isIn_e (par_bd hG.1.1 hG.1.2.1) hR (by omega), b1_some]
    by_cases c : A 10 n = 0
    · rw [if_pos c, if_pos rfl, if_pos rfl]; exact ⟨-2, rfl, rfl⟩
    · rw [if_neg c, if_neg (by decide), if_neg (by decide), Sp_delayTo_e hG.1 hK ⟨by omega, c⟩, b1_some, M_delayTo_e hG.1.1 hG.1.2.1 hR ⟨by omega, c⟩, b1_some]
      exact ⟨_, rfl, rfl⟩
  · simp only [b1_some, b2_some, lt_e, o10, eq_self, ↓reduceIte, a3, a4]
    exact ⟨-1, rfl, rfl⟩
theorem sp_isPlaced : Sp_isPlaced Inv := by
  intro k m v1 v2 hI
  obtain ⟨A, hG, hR, hK, hT, hH⟩ := hI
  have hN := hG.1.1.1
  unfold K_isPlaced M_isPlaced
  rcases node_c hG hR hK v1 with ⟨n, a1, a2, a3, a4⟩ | ⟨a3, a4⟩
  · rcases format_c hG hR hK v2 with ⟨f, f1, f2, f3, f4⟩ | ⟨_, f3, f4⟩
    · simp only [b1_some, b2_some, lt_e, o10, eq_self, ↓reduceIte, a3, a4, f3, f4]
      have hp := (hG.1.2.2.1.2 n f (by omega) (by omega)).1
      have e9 := hK.pl (n := n) (f := f) (by omega) (by omega)
      rw [a2, f2, M_has_e hG.1.2.2.1 hR (by omega) (by omega), b1_some, li4]
      simp (disch := omega) only [b1_some, b2_some, lt_e, rd_n, wr_n, nI_add, pk_mul, nI_leI, nI_ltI, nI_eq, nI_1, e9]
      rcases (show A 9 (4 * n + f) = 0 ∨ A 9 (4 * n + f) = 1 by omega) with c | c
      · rw [c, if_pos nI_0, if_neg (show ¬ (0 : Nat) = 1 by omega), if_pos rfl]; exact ⟨0, rfl, rfl⟩
      · rw [c, if_neg (show ¬ nI 1 = 0 by decide), if_pos (show (1 : Nat) = 1 from rfl), if_neg (show ¬ (1 : Int32) = 0 by decide)]; exact ⟨1, rfl, rfl⟩
    · simp only [b1_some, b2_some, lt_e, o10, eq_self, ↓reduceIte, a3, a4, f3, f4]
      exact ⟨0, rfl, rfl⟩
  · simp only [b1_some, b2_some, lt_e, o10, eq_self, ↓reduceIte, a3, a4]
    exact ⟨0, rfl, rfl⟩
theorem sub_le {a b : Nat} (h : b ≤ a) : nI a - nI b = nI (a - b) := by
  have := sub_add b (a - b)
  rw [show b + (a - b) = a by omega] at this
  exact this
theorem need7 {A : Ab} {k m : St} (hG : WFg A) (hR : RM A m) (hK : RK A sI (A 0 4) k) : ∀ (fu r y : Nat) (v1 : Int32), y ≤ 5 → r ≤ A 0 4 → A 0 4 < r + fu → ∃ z, K_neediest_L7 k fu v1 (nI y) (nI r) = some z ∧ M_neediest_L7 m fu v1 (nI y) (nI r) = some z := by
  have hN := hG.1.1.1
  have h4 := hG.2.1.1
  intro fu
  induction fu with
  | zero => intro r y v1 _ h1 h2; omega
  | succ fu ih =>
    intro r y v1 hy h1 h2
    rw [K_neediest_L7, M_neediest_L7]; unfold K_neediest_B7 M_neediest_B7
    rw [rd_at 96 li96 (by omega) (by omega), b1_some, hR.rcv, hK.rcv]
    simp (disch := omega) only [b1_some, b2_some, lt_e, rd_n, wr_n, nI_add, pk_mul, nI_leI, nI_ltI, nI_eq, nI_1]
    by_cases e : r < A 0 4
    · have hq := hG.2.1.2.1 r e
      have hlw := hG.2.2.2.1 r e
      have f1 : gt k 24 r = nI (A 15 r) := hK.lf e
      have f2 : gt k 22 r = nI (A 13 r) := hK.wa e
      have f3 : gt k 23 r = nI (A 14 r) := hK.lv e
      rw [if_neg (show ¬ A 0 4 ≤ r by omega), if_neg (show ¬ A 0 4 ≤ r by omega), M_of4 hR (by omega), M_of2 hR (by omega), M_of3 hR (by omega), li0]
      unfold K_neediest_J53
      simp (disch := omega) only [b1_some, b2_some, lt_e, rd_n, wr_n, nI_add, pk_mul, nI_leI, nI_ltI, nI_eq, nI_1, f1, f2, f3, sub_le]
      by_cases c : A 15 r = 0
      · rw [if_pos c, if_pos c]
        by_cases d : A 13 r - A 14 r ≤ y
        · rw [if_pos d, if_pos d]; exact ih (r + 1) y v1 hy (by omega) (by omega)
        · rw [if_neg d, if_neg d]; exact ih (r + 1) (A 13 r - A 14 r) (nI r) (by omega) (by omega) (by omega)
      · rw [if_neg c, if_neg c, if_pos (by omega)]
        exact ih (r + 1) y v1 hy (by omega) (by omega)
    · rw [if_pos (by omega), if_pos (by omega)]
      exact ⟨_, rfl, rfl⟩
theorem sp_neediest : Sp_neediest Inv := by
  intro k m hI
  obtain ⟨A, hG, hR, hK, hT, hH⟩ := hI
  have h4 := hG.2.1.1
  exact need7 hG hR hK FU 0 0 (-2) (by omega) (by omega) (by rw [FU_e]; omega)
theorem pathM {A : Ab} {m : St} (hG : WFg A) (hR : RM A m) {x : Nat} (hx : inT A x) {j : Nat} (hj : j ≤ dep A x) : ∀ (fu i : Nat), i ≤ j → j < i + fu → M_pathNode_L50 m fu (nI j) (nI (chn A i x)) (nI i) = some (nI (chn A j x)) := by
  have hN := hG.1.1.1
  have hd := dep_le hG.1.1 hG.1.2.1 hx
  intro fu
  induction fu with
  | zero => intro i h1 h2; omega
  | succ fu ih =>
    intro i h1 h2
    rw [M_pathNode_L50]; unfold M_pathNode_B50
    simp (disch := omega) only [b1_some, b2_some, lt_e, rd_n, wr_n, nI_add, pk_mul, nI_leI, nI_ltI, nI_eq, nI_1]
    by_cases e : i = j
    · rw [if_pos (by omega), e]
    · have hin := chn_inT hG.1.1 hG.1.2.1 hx (i := i) (by omega)
      have hz := hd.2.2 i (by omega)
      rw [if_neg (by omega), M_up_in hG.1.1 hG.1.2.1 hR hin hz, b1_some, ← chn_succ]
      exact ih (i + 1) (by omega) (by omega)
theorem pathK {A : Ab} {k : St} (hG : WFg A) (hK : RK A sI (A 0 4) k) {x : Nat} (hx : inT A x) (v2 : Int32) : ∀ (fu i : Nat), i ≤ dep A x → (i : Int) ≤ v2.toInt → dep A x + 2 < i + fu → K_pathNode_L26 k (fun y9 => K_pathNode_J60 y9 k) fu v2 (nI (chn A i x)) (nI i) = some (if v2.toInt ≤ dep A x then nI (chn A v2.toInt.toNat x) else -2) := by
  have hN := hG.1.1.1
  have hd := dep_le hG.1.1 hG.1.2.1 hx
  intro fu
  induction fu with
  | zero => intro i h1 _ h2; omega
  | succ fu ih =>
    intro i h1 hv h2
    have hin := chn_inT hG.1.1 hG.1.2.1 hx h1
    have hn16 := hin.1
    rw [K_pathNode_L26]; unfold K_pathNode_B26
    by_cases c : v2 ≤ nI i
    · have := (v_le_nI v2 (by omega)).mp c
      have hvi : v2.toInt = i := by omega
      rw [if_pos c]
      show K_pathNode_J60 (nI (chn A i x)) k = _
      unfold K_pathNode_J60
      rw [if_neg (nI_neg1 (by omega)), if_pos (by omega), hvi]
      rfl
    · have hc : ¬ v2.toInt ≤ (i : Int) := fun z => c ((v_le_nI v2 (by omega)).mpr z)
      rw [if_neg c, if_neg (fun z => by rw [li16] at z; have := (nI_leI (by omega) (by omega)).mp z; omega), if_neg (nI_neg1 (by omega)), rd_n hn16 (by omega), b1_some, nI_1]
      by_cases e : i = dep A x
      · have h0 : chn A i x = 0 := by rw [e]; exact hd.2.1
        rw [h0, hK.par (by omega), pK_0 hG.1.2.1]
        cases fu with
        | zero => omega
        | succ fu =>
          rw [K_pathNode_L26]; unfold K_pathNode_B26
          have hJ : K_pathNode_J60 (-1) k = some (-2) := by unfold K_pathNode_J60; rw [if_pos rfl]
          rw [if_neg (show ¬ v2.toInt ≤ (dep A x : Int) by omega)]
          simp only [hJ]
          split
          · rfl
          · split
            · rfl
            · exact if_pos trivial
      · have hz := hd.2.2 i (by omega)
        rw [hK.up hG.1 hin hz, ← chn_succ]
        exact ih (i + 1) (by omega) (by omega) (by omega)
theorem sp_pathNode : Sp_pathNode Inv := by
  intro k m v1 v2 hI
  obtain ⟨A, hG, hR, hK, hT, hH⟩ := hI
  have hN := hG.1.1.1
  have h4 := hG.2.1.1
  unfold K_pathNode M_pathNode
  rcases recv_c hG hR hK v1 with ⟨r, r1, r2, r3, r4, r5⟩ | ⟨r4, r5⟩
  · simp only [b1_some, b2_some, lt_e, o10, eq_self, ↓reduceIte, r4, r5]
    by_cases c0 : (0 : Int32) ≤ v2
    · have h0 : 0 ≤ v2.toInt := by
        have := i32_le.mp c0
        rw [show (0 : Int32).toInt = 0 by decide] at this
        exact this
      rw [if_pos c0, if_pos c0, r3, M_of3 hR (by omega), b1_some, Sp_pathStart_e hG.1 (Sg_sI hG.2.1) hK r1, b1_some, M_of0 hR (by omega), b1_some]
      have h14 := hG.1.l14 r (by omega)
      by_cases c : A 14 r = 0
      · rw [c, if_pos nI_0, if_pos (show A 14 (sI r) = 0 from c), show FU = 3999 + 1 from rfl, K_pathNode_L26]
        unfold K_pathNode_B26
        have hJ : K_pathNode_J60 (-1) k = some (-2) := by unfold K_pathNode_J60; rw [if_pos rfl]
        simp only [hJ]
        refine ⟨-2, ?_, rfl⟩
        split
        · rfl
        · split
          · rfl
          · exact if_pos trivial
      · have hin := WFr.in hG.1.1 hG.1.2.2.2 (r := r) (by omega) (by omega)
        have hd := (dep_le hG.1.1 hG.1.2.1 hin).1
        rw [if_neg (fun z => c ((nI_z (by omega)).mp z)), if_neg (show ¬ A 14 (sI r) = 0 from c), M_depth_e hG.1.1 hG.1.2.1 hR hin, b1_some]
        have hKp := pathK hG hK hin v2 FU 0 (by omega) (by omega) (by rw [FU_e]; omega)
        have hKp : K_pathNode_L26 k (fun y9 => K_pathNode_J60 y9 k) FU v2 (nI (A 11 (sI r))) 0 = some (if v2.toInt ≤ dep A (A 11 r) then nI (chn A v2.toInt.toNat (A 11 r)) else -2) := hKp
        rw [hKp]
        by_cases d : v2 ≤ nI (dep A (A 11 r))
        · have hd2 := (v_le_nI v2 (by omega)).mp d
          obtain ⟨j, j1, j2⟩ := arg_in (v := v2) (n := dep A (A 11 r) + 1) (by omega) (by omega)
          have hj : v2.toInt.toNat = j := by rw [j2, nI_toInt (by omega)]; rfl
          have hM := pathM hG hR hin (j := j) (by omega) FU 0 (by omega) (by rw [FU_e]; omega)
          have hM : M_pathNode_L50 m FU (nI j) (nI (A 11 r)) 0 = some (nI (chn A j (A 11 r))) := hM
          rw [if_pos d, if_pos hd2, hj, j2, b1_some, hM]
          exact ⟨_, rfl, rfl⟩
        · have hd2 : ¬ v2.toInt ≤ (dep A (A 11 r) : Int) := fun z => d ((v_le_nI v2 (by omega)).mpr z)
          rw [if_neg d, if_neg hd2]
          exact ⟨_, rfl, rfl⟩
    · rw [if_neg c0, if_neg c0]
      exact ⟨-1, rfl, rfl⟩
  · simp only [b1_some, b2_some, lt_e, o10, eq_self, ↓reduceIte, r4, r5]
    exact ⟨-1, rfl, rfl⟩
/-- measured, both -/
theorem meas_both {A : Ab} {k m : St} (hG : WFg A) (hR : RM A m) (hK : RK A sI (A 0 4) k) : ∃ (m2 k2 : St) (D : Ab), M_measures m = some m2 ∧ Fl_measure k = some k2 ∧ RM A m2 ∧ RK A sI (A 0 4) k2 ∧ Fx m m2 ∧ Fy k k2 ∧ RS D m2 ∧ MS A D ∧ KM A k2 := by
  obtain ⟨m2, D, a1, a2, a3, a4⟩ := M_measures_e hG.1.1 hG.1.2.1 hG.1.2.2.1 hG.1.2.2.2 hG.1.l14 hR
  obtain ⟨k2, b1', b2', b3', _⟩ := Fl_measure_e hG.1 (Sg_sI hG.2.1) hK
  exact ⟨m2, k2, D, a1, b1', a3.rm hR, b2'.rk hK, a3.w.x, b2'.k.y, a2, a4, b3'⟩
theorem sp_demand : Sp_demand Inv := by
  intro k m v1 v2 hI
  obtain ⟨A, hG, hR, hK, hT, hH⟩ := id hI
  have hN := hG.1.1.1
  unfold K_demand M_demand
  rcases node_c hG hR hK v1 with ⟨n, a1, a2, a3, a4⟩ | ⟨a3, a4⟩
  · rcases format_c hG hR hK v2 with ⟨f, f1, f2, f3, f4⟩ | ⟨_, f3, f4⟩
    · simp only [b1_some, b2_some, lt_e, o10, eq_self, ↓reduceIte, a3, a4, f3, f4]
      obtain ⟨m2, k2, D, x1, x2, x3, x4, x5, x6, x7, x8, x9⟩ := meas_both hG hR hK
      rw [x1, x2, b1_some, b1_some, a2, f2, li4]
      simp (disch := omega) only [b1_some, b2_some, lt_e, rd_n, wr_n, nI_add, pk_mul, nI_leI, nI_ltI, nI_eq, nI_1]
      rw [x9.1 n f (by omega) f1, x7.1 _ (by omega), x8.1 n f (by omega) f1]
      exact Q2.done (A := A) ⟨_, k2, m2, rfl, rfl, x3, x4, x5.q, x6.p⟩ hG hT hH
    · simp only [b1_some, b2_some, lt_e, o10, eq_self, ↓reduceIte, a3, a4, f3, f4]
      exact ⟨-1, k, m, rfl, rfl, hI⟩
  · simp only [b1_some, b2_some, lt_e, o10, eq_self, ↓reduceIte, a3, a4]
    exact ⟨-1, k, m, rfl, rfl, hI⟩
theorem sp_linkLoad : Sp_linkLoad Inv := by
  intro k m v1 hI
  obtain ⟨A, hG, hR, hK, hT, hH⟩ := id hI
  have hN := hG.1.1.1
  unfold K_linkLoad M_linkLoad
  rcases link_c hG hR hK v1 with ⟨l, a1, a2, a3, a4⟩ | ⟨a3, a4⟩
  · simp only [b1_some, b2_some, lt_e, o10, eq_self, ↓reduceIte, a3, a4]
    obtain ⟨m2, k2, D, x1, x2, x3, x4, x5, x6, x7, x8, x9⟩ := meas_both hG hR hK
    rw [x1, x2, b1_some, b1_some, a2, rd_n (by omega) (by omega), b1_some, rd_n (by omega) (by omega), b1_some, x9.2.1 l a1, x7.2.2.1 l (by omega), MS_lld hG.1.1 hG.1.2.1 x8 (by omega)]
    exact Q2.done (A := A) ⟨_, k2, m2, rfl, rfl, x3, x4, x5.q, x6.p⟩ hG hT hH
  · simp only [b1_some, b2_some, lt_e, o10, eq_self, ↓reduceIte, a3, a4]
    exact ⟨-1, k, m, rfl, rfl, hI⟩
theorem sp_cpuLoad : Sp_cpuLoad Inv := by
  intro k m v1 hI
  obtain ⟨A, hG, hR, hK, hT, hH⟩ := id hI
  have hN := hG.1.1.1
  unfold K_cpuLoad M_cpuLoad
  rcases node_c hG hR hK v1 with ⟨n, a1, a2, a3, a4⟩ | ⟨a3, a4⟩
  · simp only [b1_some, b2_some, lt_e, o10, eq_self, ↓reduceIte, a3, a4]
    obtain ⟨m2, k2, D, x1, x2, x3, x4, x5, x6, x7, x8, x9⟩ := meas_both hG hR hK
    rw [x1, x2, b1_some, b1_some, a2, rd_n (by omega) (by omega), b1_some, rd_n (by omega) (by omega), b1_some, x9.2.2 n a1, x7.2.2.2 n (by omega), x8.2.2.2 n (by omega)]
    exact Q2.done (A := A) ⟨_, k2, m2, rfl, rfl, x3, x4, x5.q, x6.p⟩ hG hT hH
  · simp only [b1_some, b2_some, lt_e, o10, eq_self, ↓reduceIte, a3, a4]
    exact ⟨-1, k, m, rfl, rfl, hI⟩
