/-! ===== PHASE B: trying a level, in the reference ===== -/
def WF (A : Ab) : Prop := WFs A ∧ WFt A ∧ WFc A ∧ WFr A
theorem WF.l14 {A : Ab} (h : WF A) : ∀ r, r < 21 → A 14 r ≤ 5 := fun r hr => by
  by_cases e : A 14 r = 0
  · omega
  · have := h.2.2.2 r hr (by omega)
    have := h.1.1
    omega
def Fit (A : Ab) : Prop := wrg A = 999
/-- receiver r at level k hung into the tree, if it isn't there -/
def Gr (A : Ab) (r k : Nat) (B : Ab) : Prop := (A 10 (A 11 r) ≠ 0 ∧ B = A) ∨ (A 10 (A 11 r) = 0 ∧ ∃ n, Way A (rt A (A 12 r) k) (A 11 r) n (pth A (rt A (A 12 r) k) (xM A (rt A (A 12 r) k) (A 11 r)) (frs A (rt A (A 12 r) k) (xM A (rt A (A 12 r) k) (A 11 r)))) ∧ B = attF A (pth A (rt A (A 12 r) k) (xM A (rt A (A 12 r) k) (A 11 r)) (frs A (rt A (A 12 r) k) (xM A (rt A (A 12 r) k) (A 11 r)))) n)
theorem way_n {A : Ab} {R t n n2 : Nat} {p : Nat → Nat} (h : Way A R t n p) (h2 : Way A R t n2 p) : n = n2 := by
  rcases Nat.lt_trichotomy n n2 with e | e | e
  · exact absurd h.2.2.2.2.2.1 (h2.2.2.2.2.2.2.1 n e)
  · exact e
  · exact absurd h2.2.2.2.2.2.1 (h.2.2.2.2.2.2.1 n2 e)
theorem Gr_uniq {A B C : Ab} {r k : Nat} (h : Gr A r k B) (h2 : Gr A r k C) : B = C := by
  rcases h with ⟨a, b⟩ | ⟨a, n, b, c⟩ <;> rcases h2 with ⟨d, e⟩ | ⟨d, n2, e, f⟩
  · rw [b, e]
  · exact absurd d a
  · exact absurd a d
  · rw [c, f, way_n b e]
/-- what grafting leaves as it is -/
theorem Gr_sp {A B : Ab} {r k : Nat} (hs : WFs A) (ht : WFt A) (h : Gr A r k B) (hx : A 11 r < A 0 0) : (∀ a j, a ≠ 10 → B a j = A a j) ∧ WFt B ∧ (∀ x, A 10 x ≠ 0 → B 10 x = A 10 x) ∧ B 10 (A 11 r) ≠ 0 := by
  rcases h with ⟨a, b⟩ | ⟨a, n, b, c⟩
  · rw [b]; exact ⟨fun _ _ _ => rfl, ht, fun _ _ => rfl, a⟩
  · have hw := att_wf hs ht b n (Nat.le_refl _)
    rw [c]
    refine ⟨fun a j h => att_ne n a j (Or.inl h), hw.1, hw.2.1, ?_⟩
    have := hw.2.2.2
    rw [b.2.2.2.2.2.1] at this
    exact this
theorem Gr_wf {A B : Ab} {r k : Nat} (hA : WF A) (h : Gr A r k B) (hx : A 11 r < A 0 0) (hf : A 12 r < A 0 2) (hk : k ≤ A 0 3) : WF (up2 B 14 r k) ∧ Ec A (up2 B 14 r k) ∧ ∀ a j, a ≠ 10 → (a ≠ 14 ∨ j ≠ r) → up2 B 14 r k a j = A a j := by
  obtain ⟨g1, g2, g3, g4⟩ := Gr_sp hA.1 hA.2.1 h hx
  have e : ∀ a j, a ≠ 10 → (a ≠ 14 ∨ j ≠ r) → up2 B 14 r k a j = A a j := fun a j h1 h2 => by rw [up2_ne h2, g1 a j h1]
  have hec : Ec A (up2 B 14 r k) := fun a j h1 _ => e a j (by omega) (by omega)
  have e10 : ∀ j, up2 B 14 r k 10 j = B 10 j := fun j => up2_ne (by omega)
  refine ⟨⟨WFs_es hec.s hA.1, ?_, WFc_ec hec hA.2.2.1, fun r2 hr2 hl => ?_⟩, hec, e⟩
  · obtain ⟨t1, t2, t3, g, t4⟩ := g2
    refine ⟨by rw [e10]; exact t1, fun n hn h1 => by rw [e10]; exact t2 n hn h1, fun n hn h2 => ?_, g, fun n hn h2 => ?_⟩
    · rw [e10] at h2
      obtain ⟨x1, x2, x3, l, x4⟩ := t3 n hn h2
      rw [e10, e10, e 0 0 (by omega) (by omega)]
      rw [g1 0 0 (by omega)] at x1 x2
      refine ⟨x1, x2, x3, l, ?_⟩
      have : Es B (up2 B 14 r k) := fun a j h1 _ => up2_ne (by omega)
      exact (Lk_es this).mpr x4
    · rw [e10] at h2 ⊢; exact t4 n hn h2
  · rw [e 11 r2 (by omega) (by omega), e 12 r2 (by omega) (by omega), e 0 0 (by omega) (by omega), e 0 2 (by omega) (by omega), e 0 3 (by omega) (by omega), e10]
    by_cases c : r2 = r
    · subst c
      rw [up2_same]
      exact ⟨hx, hf, hk, g4⟩
    · rw [e 14 r2 (by omega) (by omega)] at hl ⊢
      obtain ⟨w1, w2, w3, w4⟩ := hA.2.2.2 r2 hr2 hl
      exact ⟨w1, w2, w3, by rw [g3 _ w4]; exact w4⟩
theorem tries82 {A : Ab} (hs : WFs A) (ht : WFt A) {R t n : Nat} {p : Nat → Nat} (hw : Way A R t n p) (v1 v2 v3 : Int32) (k : Int32 → Int32 → Int32 → St → Option (Int32 × St)) : ∀ (fu i : Nat) (m : St), RM (attF A p i) m → RP p n m → i ≤ n → n < i + fu → ∃ m2, M_tries_L82 k fu v1 v2 v3 (nI (i + 1)) m = k v1 v2 v3 m2 ∧ Fw m m2 ∧ RM (attF A p n) m2 ∧ m2.1 14 = m.1 14 := by
  have hN := hs.1
  intro fu
  induction fu with
  | zero => intro i m _ _ h1 h2; omega
  | succ fu ih =>
    intro i m hR hP h1 h2
    have hn15 := hw.2.2.2.2.1
    rw [M_tries_L82]; unfold M_tries_B82
    rw [hP.1]
    simp (disch := omega) only [b1_some, b2_some, lt_e, rd_n, wr_n, nI_add, pk_mul, nI_leI, nI_ltI, nI_eq, nI_1]
    by_cases e : i < n
    · have hb := way_bd hs ht hw (i + 1) (by omega)
      rw [if_neg (by omega), nI_pred, hP.2 (i + 1) (by omega), li80]
      simp (disch := omega) only [b1_some, b2_some, lt_e, rd_n, wr_n, nI_add, pk_mul, nI_leI, nI_ltI, nI_eq, nI_1]
      rw [hP.2 i (by omega)]
      have hR2 := RM.par (WFs_es (att_ec i).s hs) hR (n := p (i + 1)) (p i + 2) (by omega)
      rw [pI_2] at hR2
      have hF : Fw m (st m 4 (80 + p (i + 1)) (nI (p i))) := Fw.st (Or.inl rfl)
      obtain ⟨m2, g1, g2, g3, g4⟩ := ih (i + 1) _ hR2 ⟨by rw [gt_st_k (by omega)]; exact hP.1, fun j hj => by rw [gt_st_k (by omega)]; exact hP.2 j hj⟩ (by omega) (by omega)
      exact ⟨m2, g1, hF.tr g2, g3, g4.trans (st_row_ne (by omega))⟩
    · rw [if_pos (by omega)]
      have : i = n := by omega
      subst this
      exact ⟨m, rfl, Fw.rf, hR, rfl⟩
theorem tries147 {A B : Ab} (hs : WFs B) (h1 : ∀ a j, a ≠ 10 → B a j = A a j) : ∀ (fu i : Nat) (m : St), (∃ C, RM C m ∧ (∀ a j, a ≠ 10 → C a j = A a j) ∧ ∀ j, j < i → C 10 j = A 10 j) → (∀ j, j < 16 → gt m 14 j = pI (A 10 j)) → i ≤ 16 → 16 < i + fu → ∃ m2, M_tries_L147 fu (nI i) m = some (0, m2) ∧ Fw m m2 ∧ RM A m2 := by
  intro fu
  induction fu with
  | zero => intro i m _ _ h1 h2; omega
  | succ fu ih =>
    intro i m hC h14 h2 h3
    obtain ⟨C, c1, c2, c3⟩ := hC
    rw [M_tries_L147]; unfold M_tries_B147
    rw [li16, li80]
    simp (disch := omega) only [b1_some, b2_some, lt_e, rd_n, wr_n, nI_add, pk_mul, nI_leI, nI_ltI, nI_eq, nI_1]
    by_cases e : i < 16
    · rw [if_neg (by omega)]
      simp (disch := omega) only [rd_n, wr_n, b1_some]
      rw [h14 i e]
      have hsC : WFs C := WFs_es (A := B) (fun a j x y => by rw [c2 a j (by omega), h1 a j (by omega)]) hs
      have hR2 := RM.par hsC c1 (n := i) (A 10 i) e
      have hF : Fw m (st m 4 (80 + i) (pI (A 10 i))) := Fw.st (Or.inl rfl)
      obtain ⟨m2, g1, g2, g3⟩ := ih (i + 1) _ ⟨_, hR2, fun a j ha => by rw [up2_ne (Or.inl ha)]; exact c2 a j ha, fun j hj => by
        by_cases d : j = i
        · subst d; rw [up2_same]
        · rw [up2_ne (Or.inr d)]; exact c3 j (by omega)⟩ (fun j hj => by rw [gt_st_k (by omega)]; exact h14 j hj) (by omega) (by omega)
      exact ⟨m2, g1, hF.tr g2, g3⟩
    · rw [if_pos (by omega)]
      exact ⟨m, rfl, Fw.rf, RM_ext c2 (fun j hj => c3 j (by omega)) c1⟩
theorem M_set3 {m : St} {r : Nat} (v : Int32) (hr : r < 21) : M_set m (nI r) 3 v = some (st m 4 (97 + 5 * r + 3) v) := M_set_e v hr (w := 3) (by omega)
theorem wI_pos {x : Nat} (h : x < 2 ^ 31) : 0 ≤ wI x ↔ x ≠ 999 := by
  unfold wI
  split
  · rename_i c; exact ⟨fun z => absurd z (by decide), fun z => absurd c z⟩
  · rename_i c; exact ⟨fun _ => c, fun _ => nI_pos' h⟩
theorem wrg_lt {A : Ab} (hs : WFs A) : wrg A < 1000 := by
  have hN := hs.1
  unfold wrg
  split
  · omega
  · split
    · omega
    · split <;> omega
theorem tries121 {A B : Ab} {m : St} (hA : WF A) {r k : Nat} (hr : r < 21) (hx : A 11 r < A 0 0) (hf : A 12 r < A 0 2) (hk1 : k ≤ A 0 3) (hG : Gr A r k B) (hR : RM B m) (h14 : ∀ j, j < 16 → gt m 14 j = pI (A 10 j)) : (Fit (up2 B 14 r k) ∧ ∃ m2, M_tries_J121 (nI r) (nI k) (nI (A 14 r)) m = some (1, m2) ∧ Fw m m2 ∧ RM (up2 B 14 r k) m2) ∨ (¬ Fit (up2 B 14 r k) ∧ ∃ m2, M_tries_J121 (nI r) (nI k) (nI (A 14 r)) m = some (0, m2) ∧ Fw m m2 ∧ RM A m2) := by
  obtain ⟨g1, g2, g3⟩ := Gr_wf hA hG hx hf hk1
  obtain ⟨s1, s2, s3, s4⟩ := Gr_sp hA.1 hA.2.1 hG hx
  have hsB : WFs B := WFs_es (A := A) (fun a j x y => s1 a j (by omega)) hA.1
  unfold M_tries_J121
  rw [M_set3 _ hr, b1_some]
  have hR1 := hR.lvl hsB (r := r) (w := 3) k hr (by omega)
  have hF1 : Fw m (st m 4 (97 + 5 * r + 3) (nI k)) := Fw.st (Or.inl rfl)
  obtain ⟨m2, e1, e2⟩ := M_wrong_e g1.1 g1.2.1 g1.2.2.1 g1.2.2.2 g1.l14 hR1
  rw [e1, b2_some]
  have hlt := wrg_lt g1.1
  by_cases c : wrg (up2 B 14 r k) = 999
  · rw [if_neg (fun z => ((wI_pos (by omega)).mp z) c)]
    exact Or.inl ⟨c, m2, rfl, hF1.tr e2.w, e2.rm hR1⟩
  · rw [if_pos ((wI_pos (by omega)).mpr c), M_set3 _ hr, b1_some, li0]
    have hR2 := (e2.rm hR1).lvl g1.1 (r := r) (w := 3) (A 14 r) hr (by omega)
    have hF2 : Fw m (st m2 4 (97 + 5 * r + 3) (nI (A 14 r))) := (hF1.tr e2.w).tr (Fw.st (Or.inl rfl))
    obtain ⟨m3, f1, f2, f3⟩ := tries147 (A := A) hA.1 (fun _ _ _ => rfl) FU 0 _ ⟨_, hR2, fun a j ha => by
      by_cases d : a = 14 ∧ j = r
      · rw [d.1, d.2]; exact up2_same
      · rw [up2_ne (by omega), g3 a j ha (by omega)], fun j hj => by omega⟩ (fun j hj => by
        rw [gt_st_k (by omega), gt_e, e2.1 14 (by omega), ← gt_e, gt_st_k (by omega)]; exact h14 j hj) (by omega) (by rw [FU_e]; omega)
    exact Or.inr ⟨c, m3, f1, hF2.tr f2, f3⟩
theorem M_tries_e {A : Ab} {m : St} (hA : WF A) (hR : RM A m) {r k : Nat} (hr : r < 21) (hx : A 11 r < A 0 0) (hf : A 12 r < A 0 2) (hk1 : k ≤ A 0 3) : (∃ B, Gr A r k B ∧ Fit (up2 B 14 r k) ∧ ∃ m2, M_tries m (nI r) (nI k) = some (1, m2) ∧ Fw m m2 ∧ RM (up2 B 14 r k) m2) ∨ ((∀ B, Gr A r k B → ¬ Fit (up2 B 14 r k)) ∧ ∃ m2, M_tries m (nI r) (nI k) = some (0, m2) ∧ Fw m m2 ∧ RM A m2) := by
  have hN := hA.1.1
  unfold M_tries
  rw [show M_of m (nI r) 3 = some (nI (A 14 r)) from M_of_e hR hr (w := 3) (by omega), b1_some, show M_of m (nI r) 0 = some (nI (A 11 r)) from M_of_e hR hr (w := 0) (by omega), b1_some]
  obtain ⟨m1, a1, a2, a3, a4⟩ := tries18 (A := A) (nI r) (nI k) (nI (A 14 r)) (nI (A 11 r)) (fun y6 y7 y8 y9 q10 => b1 (M_isIn q10 y9) fun x11 => if x11 = 0 then b1 (M_of q10 y6 1) fun x21 => b1 (M_rateOf q10 x21 y7) fun x22 => b2 (M_lays q10 y9 x22) fun x23 q24 => if x23 = 0 then some (0, q24) else M_tries_L82 (fun y30 y31 y32 q33 => M_tries_J121 y30 y31 y32 q33) FU y6 y7 y8 1 q24 else M_tries_J121 y6 y7 y8 q10) FU 0 m hR (by omega) (by rw [FU_e]; omega) (fun j hj => by omega)
  have a1 := a1
  rw [show nI 0 = 0 from rfl] at a1
  rw [a1, M_isIn_e (par_bd hA.1 hA.2.1) a3 (by omega), b1_some]
  by_cases c : A 10 (A 11 r) = 0
  · rw [if_pos c, if_pos rfl, show M_of m1 (nI r) 1 = some (nI (A 12 r)) from M_of_e a3 hr (w := 1) (by omega), b1_some, M_rateOf_e hA.1 a3 hf hk1, b1_some]
    have hrt := (rt_le hA.1 hf k hk1).1
    rcases M_lays_e hA.1 hA.2.1 hA.2.2.1 a3 (R := rt A (A 12 r) k) (t := A 11 r) (by omega) (by omega) c with ⟨d1, m2, d2, d3⟩ | ⟨n, d1, m2, d2, d3, d4⟩
    · rw [d2, b2_some, if_pos rfl]
      refine Or.inr ⟨fun B hB => ?_, m2, rfl, a2.tr d3.w, d3.rm a3⟩
      rcases hB with ⟨x, _⟩ | ⟨_, n, x, _⟩
      · exact absurd c x
      · exact absurd d1 x.1
    · rw [d2, b2_some, if_neg (by decide)]
      obtain ⟨m3, e1, e2, e3, e4⟩ := tries82 hA.1 hA.2.1 d1 (nI r) (nI k) (nI (A 14 r)) (fun y30 y31 y32 q33 => M_tries_J121 y30 y31 y32 q33) FU 0 m2 (d3.rm a3) d4 (by omega) (by rw [FU_e]; have := d1.2.2.2.2.1; omega)
      have e1 := e1
      rw [show nI (0 + 1) = 1 from rfl] at e1
      rw [e1]
      have hG : Gr A r k _ := Or.inr ⟨c, n, d1, rfl⟩
      have hF := (a2.tr d3.w).tr e2
      rcases tries121 hA hr hx hf hk1 hG e3 (fun j hj => by rw [gt_e, e4, d3.1 14 (by omega) (by omega) (by omega)]; exact a4 j hj) with ⟨f1, m4, f2, f3, f4⟩ | ⟨f1, m4, f2, f3, f4⟩
      · exact Or.inl ⟨_, hG, f1, m4, f2, hF.tr f3, f4⟩
      · exact Or.inr ⟨fun B hB => by rw [Gr_uniq hB hG]; exact f1, m4, f2, hF.tr f3, f4⟩
  · rw [if_neg c, if_neg (by decide)]
    have hG : Gr A r k A := Or.inl ⟨c, rfl⟩
    rcases tries121 hA hr hx hf hk1 hG a3 a4 with ⟨f1, m4, f2, f3, f4⟩ | ⟨f1, m4, f2, f3, f4⟩
    · exact Or.inl ⟨A, hG, f1, m4, f2, a2.tr f3, f4⟩
    · exact Or.inr ⟨fun B hB => by rw [Gr_uniq hB hG]; exact f1, m4, f2, a2.tr f3, f4⟩
/-- the greatest level of k, k - 1, .. 1 that goes -/
def Jo (A : Ab) (r : Nat) : Nat → Ab → Nat → Prop
  | 0, B, z => B = A ∧ z = 0
  | k + 1, B, z => (∃ C, Gr A r (k + 1) C ∧ Fit (up2 C 14 r (k + 1)) ∧ B = up2 C 14 r (k + 1) ∧ z = k + 1) ∨ ((∀ C, Gr A r (k + 1) C → ¬ Fit (up2 C 14 r (k + 1))) ∧ Jo A r k B z)
theorem joins14 {A : Ab} (hA : WF A) {r : Nat} (hr : r < 21) (hx : A 11 r < A 0 0) (hf : A 12 r < A 0 2) : ∀ (k fu : Nat) (m : St), RM A m → k ≤ A 0 3 → k < fu → ∃ (m2 : St) (B : Ab) (z : Nat), M_joins_L14 fu (nI r) (nI k) m = some m2 ∧ Jo A r k B z ∧ RM B m2 ∧ Fw m m2 := by
  have hN := hA.1.1
  intro k
  induction k with
  | zero =>
    intro fu m hR _ h
    cases fu with
    | zero => omega
    | succ fu =>
      rw [M_joins_L14]; unfold M_joins_B14
      rw [if_pos (by decide)]
      exact ⟨m, A, 0, rfl, ⟨rfl, rfl⟩, hR, Fw.rf⟩
  | succ k ih =>
    intro fu m hR hk h
    cases fu with
    | zero => omega
    | succ fu =>
      rw [M_joins_L14]; unfold M_joins_B14
      rw [if_neg (fun c => by rw [li0] at c; have := (nI_leI (by omega) (by omega)).mp c; omega)]
      rcases M_tries_e hA hR (k := k + 1) hr hx hf hk with ⟨B, b1', b2', m2, b3, b4, b5⟩ | ⟨b1', m2, b3, b4, b5⟩
      · rw [b3, b2_some, if_neg (by decide)]
        exact ⟨m2, _, k + 1, rfl, Or.inl ⟨B, b1', b2', rfl, rfl⟩, b5, b4⟩
      · rw [b3, b2_some, if_pos rfl, nI_d1]
        obtain ⟨m3, C, z, c1, c2, c3, c4⟩ := ih fu m2 b5 (by omega) (by omega)
        exact ⟨m3, C, z, c1, Or.inr ⟨b1', c2⟩, c3, b4.tr c4⟩
