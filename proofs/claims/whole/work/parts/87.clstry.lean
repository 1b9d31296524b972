/-! ===== PHASE B: trying a level, joining, in the class ===== -/
theorem nar1 : vp_nar .boolean (1 : Int32) = 1 := by decide
theorem nar0 : vp_nar .boolean (0 : Int32) = 0 := by decide
theorem ab_ext {A B : Ab} (h : ∀ a j, B a j = A a j) : B = A := funext fun a => funext fun j => h a j
theorem RK.att {A : Ab} {s : Nat → Nat} {R : Nat} {k : St} (h : RK A s R k) {n v : Nat} (hn : n < 16) : ∃ k2, Sp_attach k (nI n) (nI v) = some k2 ∧ RK (up2 A 10 n (v + 2)) s R k2 ∧ FK k k2 ∧ ∀ j, 161 ≤ j → k2.1 j = k.1 j := by
  unfold Sp_attach
  rw [nar1, wr_n hn (by omega), b1_some, wr_n hn (by omega), b1_some]
  refine ⟨_, rfl, ?_, (FK.st (by omega)).tr (FK.st (by omega)), fun j hj => by rw [st_row_ne (by omega), st_row_ne (by omega)]⟩
  have := h.sp (n := n) (v := v + 2)
  rw [if_neg (by omega), show pK (v + 2) = nI v by unfold pK; rw [if_neg (by omega)]; rfl] at this
  exact this
theorem RK.det {A : Ab} {s : Nat → Nat} {R : Nat} {k : St} (h : RK A s R k) {n : Nat} (hn : n < 16) : ∃ k2, Sp_detach k (nI n) = some k2 ∧ RK (up2 A 10 n 0) s R k2 ∧ FK k k2 ∧ ∀ j, 161 ≤ j → k2.1 j = k.1 j := by
  unfold Sp_detach
  rw [nar0, wr_n hn (by omega), b1_some, wr_n hn (by omega), b1_some]
  exact ⟨_, rfl, h.sp (n := n) (v := 0), (FK.st (by omega)).tr (FK.st (by omega)), fun j hj => by rw [st_row_ne (by omega), st_row_ne (by omega)]⟩
theorem RPK.of {p : Nat → Nat} {n : Nat} {k k2 : St} (h : RPK p n k) (h2 : ∀ j, 161 ≤ j → k2.1 j = k.1 j) : RPK p n k2 := by
  refine ⟨by rw [gt_e, h2 161 (by omega)]; exact h.1, fun i hi => by rw [gt_e, h2 164 (by omega)]; exact h.2 i hi⟩
theorem attach2 {A : Ab} {s : Nat → Nat} {Q : Nat} (hA : WF A) {R t n : Nat} {p : Nat → Nat} (hw : Way A R t n p) : ∀ (fu i : Nat) (k : St), RK (attF A p i) s Q k → RPK p n k → i ≤ n → n < i + fu → ∃ k2, Gr_attachPath_L2 fu (nI (i + 1)) k = some k2 ∧ RK (attF A p n) s Q k2 ∧ FK k k2 ∧ RPK p n k2 := by
  have hN := hA.1.1
  have hn15 := hw.2.2.2.2.1
  intro fu
  induction fu with
  | zero => intro i k _ _ h1 h2; omega
  | succ fu ih =>
    intro i k hK hP h1 h2
    rw [Gr_attachPath_L2]; unfold Gr_attachPath_B2
    rw [hP.1]
    simp (disch := omega) only [b1_some, b2_some, lt_e, rd_n, wr_n, nI_add, pk_mul, nI_leI, nI_ltI, nI_eq, nI_1, nI_m1]
    by_cases e : i = n
    · subst e
      rw [if_pos (by omega)]
      exact ⟨k, rfl, hK, FK.rf, hP⟩
    · have hi : i < n := by omega
      have b1' := way_bd hA.1 hA.2.1 hw (i + 1) (by omega)
      rw [if_neg (by omega), rd_n (by omega) (by omega), b1_some, hP.2 (i + 1) (by omega), hP.2 i (by omega)]
      obtain ⟨k1, a1, a2, a3, a4⟩ := hK.att (n := p (i + 1)) (v := p i) (by omega)
      rw [a1, b1_some]
      obtain ⟨k2, c1, c2, c3, c4⟩ := ih (i + 1) k1 a2 (hP.of a4) (by omega) (by omega)
      exact ⟨k2, c1, c2, a3.tr c3, c4⟩
def detF (A : Ab) (p : Nat → Nat) : Nat → Ab
  | 0 => A
  | i + 1 => up2 (detF A p i) 10 (p (i + 1)) 0
theorem det_ne {A : Ab} {p : Nat → Nat} : ∀ i a j, (a ≠ 10 ∨ ∀ h, 1 ≤ h → h ≤ i → p h ≠ j) → detF A p i a j = A a j := by
  intro i
  induction i with
  | zero => intro a j _; rfl
  | succ i ih =>
    intro a j h
    rw [detF, up2_ne, ih a j]
    · rcases h with h | h
      · exact Or.inl h
      · exact Or.inr (fun q a b => h q a (by omega))
    · rcases h with h | h
      · exact Or.inl h
      · exact Or.inr (fun q => h (i + 1) (by omega) (by omega) q.symm)
theorem det_at {A : Ab} {p : Nat → Nat} : ∀ i h, 1 ≤ h → h ≤ i → detF A p i 10 (p h) = 0 := by
  intro i
  induction i with
  | zero => intro h h1 h2; omega
  | succ i ih =>
    intro h h1 h2
    rw [detF]
    by_cases e : p h = p (i + 1)
    · rw [e, up2_same]
    · rw [up2_ne (Or.inr e)]
      refine ih h h1 ?_
      apply Classical.byContradiction
      intro n
      have : h = i + 1 := by omega
      exact e (by rw [this])
theorem det_att {A : Ab} {R t n : Nat} {p : Nat → Nat} (hw : Way A R t n p) : detF (attF A p n) p n = A := ab_ext fun a j => by
  by_cases c : a ≠ 10 ∨ ∀ h, 1 ≤ h → h ≤ n → p h ≠ j
  · rw [det_ne n a j c, att_ne n a j c]
  · have ha : a = 10 := by
      apply Classical.byContradiction
      intro q; exact c (Or.inl q)
    have : ∃ h, 1 ≤ h ∧ h ≤ n ∧ p h = j := by
      apply Classical.byContradiction
      intro q
      exact c (Or.inr fun h a b e => q ⟨h, a, b, e⟩)
    obtain ⟨h, h1, h2, h3⟩ := this
    rw [ha, ← h3, det_at n h h1 h2, way_out hw h h1 h2]
theorem detach2 {B : Ab} {s : Nat → Nat} {Q n N : Nat} {p : Nat → Nat} (hN : N ≤ 16) (hn15 : n ≤ 15) (hp : ∀ i, i ≤ n → p i < N) : ∀ (fu i : Nat) (k : St), RK (detF B p i) s Q k → RPK p n k → i ≤ n → n < i + fu → ∃ k2, Gr_detachPath_L2 fu (nI (i + 1)) k = some k2 ∧ RK (detF B p n) s Q k2 ∧ FK k k2 := by
  intro fu
  induction fu with
  | zero => intro i k _ _ h1 h2; omega
  | succ fu ih =>
    intro i k hK hP h1 h2
    rw [Gr_detachPath_L2]; unfold Gr_detachPath_B2
    rw [hP.1]
    simp (disch := omega) only [b1_some, b2_some, lt_e, rd_n, wr_n, nI_add, pk_mul, nI_leI, nI_ltI, nI_eq, nI_1]
    by_cases e : i = n
    · subst e
      rw [if_pos (by omega)]
      exact ⟨k, rfl, hK, FK.rf⟩
    · have hi : i < n := by omega
      have b1' := hp (i + 1) (by omega)
      rw [if_neg (by omega), rd_n (by omega) (by omega), b1_some, hP.2 (i + 1) (by omega)]
      obtain ⟨k1, a1, a2, a3, a4⟩ := hK.det (n := p (i + 1)) (by omega)
      rw [a1, b1_some]
      obtain ⟨k2, c1, c2, c3⟩ := ih (i + 1) k1 a2 (hP.of a4) (by omega) (by omega)
      exact ⟨k2, c1, c2, a3.tr c3⟩
theorem try82 {A B : Ab} {s : Nat → Nat} {R : Nat} {k : St} (hA : WF A) (hg : Sg A s R) {r lv : Nat} (hr : r < R) (hk1 : lv ≤ A 0 3) (hG : Gr A (s r) lv B) (hK : RK B s R k) (z : Int32) : (Fit (up2 B 14 (s r) lv) ∧ ∃ k2, Tr_tryLevel_J82 (nI r) (nI lv) (nI (A 14 (s r))) z k = some (1, k2) ∧ FK k k2 ∧ RK (up2 B 14 (s r) lv) s R k2) ∨ (¬ Fit (up2 B 14 (s r) lv) ∧ ∃ k2, Tr_tryLevel_J82 (nI r) (nI lv) (nI (A 14 (s r))) z k = (if z = 0 then some (0, k2) else b1 (Gr_detachPath k2) fun q12 => some (0, q12)) ∧ FK k k2 ∧ RK B s R k2 ∧ ∀ j, 161 ≤ j → k2.1 j = k.1 j) := by
  obtain ⟨hf, hx⟩ := hg.2.2.2.2 r hr
  have hR21 := hg.1
  obtain ⟨g1, g2, g3⟩ := Gr_wf hA hG hx hf hk1
  obtain ⟨s1, s2, s3, s4⟩ := Gr_sp hA.1 hA.2.1 hG hx
  have hgB : Sg B s R := hg.tr s1
  have hK1 := hK.sl hgB (v := lv) hr
  have hg1 : Sg (up2 B 14 (s r) lv) s R := hgB.lv hr
  unfold Tr_tryLevel_J82
  rw [wr_n (by omega) (by omega), b1_some]
  obtain ⟨k1, a1, a2, a3, a4⟩ := Fl_measure_e g1 hg1 hK1
  rw [a1, b1_some]
  have hF1 : FK k k1 := (FK.st (by omega)).tr a2.k
  have h161 : ∀ j, 161 ≤ j → k1.1 j = k.1 j := fun j hj => by rw [a4 j hj, st_row_ne (by omega)]
  rcases Fl_fits_e g1 (a2.rk hK1) a3 with ⟨c1, c2⟩ | ⟨c1, c2⟩
  · rw [c2, b1_some, if_neg (by decide)]
    exact Or.inl ⟨c1, k1, rfl, hF1, a2.rk hK1⟩
  · rw [c2, b1_some, if_pos rfl, wr_n (by omega) (by omega), b1_some]
    refine Or.inr ⟨c1, _, rfl, hF1.tr (FK.st (by omega)), ?_, fun j hj => by rw [st_row_ne (by omega)]; exact h161 j hj⟩
    have := (a2.rk hK1).sl hg1 (v := A 14 (s r)) hr
    rw [show up2 (up2 B 14 (s r) lv) 14 (s r) (A 14 (s r)) = B from ab_ext fun a j => by
      by_cases d : a = 14 ∧ j = s r
      · rw [d.1, d.2, up2_same, s1 14 (s r) (by omega)]
      · rw [up2_ne (by omega), up2_ne (by omega)]] at this
    exact this
theorem Tr_tryLevel_e {A : Ab} {s : Nat → Nat} {R : Nat} {k : St} (hA : WF A) (hg : Sg A s R) (hK : RK A s R k) {r lv : Nat} (hr : r < R) (hk1 : lv ≤ A 0 3) : (∃ B, Gr A (s r) lv B ∧ Fit (up2 B 14 (s r) lv) ∧ ∃ k2, Tr_tryLevel k (nI r) (nI lv) = some (1, k2) ∧ FK k k2 ∧ RK (up2 B 14 (s r) lv) s R k2) ∨ ((∀ B, Gr A (s r) lv B → ¬ Fit (up2 B 14 (s r) lv)) ∧ ∃ k2, Tr_tryLevel k (nI r) (nI lv) = some (0, k2) ∧ FK k k2 ∧ RK A s R k2) := by
  have hN := hA.1.1
  obtain ⟨hf, hx⟩ := hg.2.2.2.2 r hr
  have hR21 := hg.1
  unfold Tr_tryLevel
  rw [rd_n (by omega) (by omega), b1_some, rd_n (by omega) (by omega), b1_some, hK.nd hr, hK.lv hr, rd_n (by omega) (by omega), b1_some, hK.tin (by omega)]
  by_cases c : A 10 (A 11 (s r)) = 0
  · rw [if_pos c, if_pos rfl]
    unfold Tr_tryLevel_J38 Su_rateOf
    rw [if_neg (by decide), li6]
    simp (disch := omega) only [b1_some, b2_some, lt_e, rd_n, wr_n, nI_add, pk_mul, nI_leI, nI_ltI, nI_eq, nI_1, hK.fm hr]
    rw [hK.rate hf hk1]
    have hrt := (rt_le hA.1 hf lv hk1).1
    rcases Gr_findPath_e hA hK (R := rt A (A 12 (s r)) lv) (t := A 11 (s r)) (by omega) (by omega) c with ⟨d1, k2, d2, d3⟩ | ⟨n, d1, k2, d2, d3, d4⟩
    · rw [d2, b2_some, if_pos rfl]
      refine Or.inr ⟨fun B hB => ?_, k2, rfl, d3.k, d3.rk hK⟩
      rcases hB with ⟨x, _⟩ | ⟨_, n, x, _⟩
      · exact absurd c x
      · exact absurd d1 x.1
    · rw [d2, b2_some, if_neg (by decide)]
      have hn15 := d1.2.2.2.2.1
      unfold Gr_attachPath
      obtain ⟨k3, e1, e2, e3, e4⟩ := attach2 (s := s) (Q := R) hA d1 FU 0 k2 (d3.rk hK) d4 (by omega) (by rw [FU_e]; omega)
      rw [show nI (0 + 1) = 1 from rfl] at e1
      rw [e1, b1_some]
      have hG : Gr A (s r) lv _ := Or.inr ⟨c, n, d1, rfl⟩
      have hF := d3.k.tr e3
      rcases try82 hA hg hr hk1 hG e2 1 with ⟨f1, k4, f2, f3, f4⟩ | ⟨f1, k4, f2, f3, f4, f5⟩
      · exact Or.inl ⟨_, hG, f1, k4, f2, hF.tr f3, f4⟩
      · refine Or.inr ⟨fun B hB => by rw [Gr_uniq hB hG]; exact f1, ?_⟩
        rw [f2, if_neg (by decide)]
        unfold Gr_detachPath
        obtain ⟨k5, g1, g2, g3⟩ := detach2 (B := attF A _ n) (s := s) (Q := R) (N := A 0 0) (n := n) (by omega) hn15 (way_bd hA.1 hA.2.1 d1) FU 0 k4 f4 (e4.of f5) (by omega) (by rw [FU_e]; omega)
        rw [show nI (0 + 1) = 1 from rfl] at g1
        rw [g1, b1_some]
        rw [det_att d1] at g2
        exact ⟨k5, rfl, (hF.tr f3).tr g3, g2⟩
  · rw [if_neg c, if_neg (by decide)]
    unfold Tr_tryLevel_J38
    rw [if_pos rfl]
    have hG : Gr A (s r) lv A := Or.inl ⟨c, rfl⟩
    rcases try82 hA hg hr hk1 hG hK 0 with ⟨f1, k4, f2, f3, f4⟩ | ⟨f1, k4, f2, f3, f4, f5⟩
    · exact Or.inl ⟨A, hG, f1, k4, f2, f3, f4⟩
    · rw [if_pos rfl] at f2
      exact Or.inr ⟨fun B hB => by rw [Gr_uniq hB hG]; exact f1, k4, f2, f3, f4⟩
theorem join10 {A : Ab} {s : Nat → Nat} {R : Nat} (hA : WF A) (hg : Sg A s R) {r : Nat} (hr : r < R) : ∀ (lv fu : Nat) (k : St), RK A s R k → lv ≤ A 0 3 → lv < fu → ∃ (k2 : St) (B : Ab) (z : Nat), Tr_join_L10 fu (nI r) (nI lv) k = some (nI z, k2) ∧ Jo A (s r) lv B z ∧ RK B s R k2 ∧ FK k k2 := by
  have hN := hA.1.1
  intro lv
  induction lv with
  | zero =>
    intro fu k hK _ h
    cases fu with
    | zero => omega
    | succ fu =>
      rw [Tr_join_L10]; unfold Tr_join_B10
      rw [if_pos (by decide)]
      exact ⟨k, A, 0, rfl, ⟨rfl, rfl⟩, hK, FK.rf⟩
  | succ lv ih =>
    intro fu k hK hk h
    cases fu with
    | zero => omega
    | succ fu =>
      rw [Tr_join_L10]; unfold Tr_join_B10
      rw [if_neg (fun c => by rw [li1] at c; have := (nI_ltI (by omega) (by omega)).mp c; omega)]
      rcases Tr_tryLevel_e hA hg hK (lv := lv + 1) hr hk with ⟨B, b1', b2', k2, b3, b4, b5⟩ | ⟨b1', k2, b3, b4, b5⟩
      · rw [b3, b2_some, if_neg (by decide)]
        exact ⟨k2, _, lv + 1, rfl, Or.inl ⟨B, b1', b2', rfl, rfl⟩, b5, b4⟩
      · rw [b3, b2_some, if_pos rfl, nI_d1]
        obtain ⟨k3, C, z, c1, c2, c3, c4⟩ := ih fu k2 b5 (by omega) (by omega)
        exact ⟨k3, C, z, c1, Or.inr ⟨b1', c2⟩, c3, b4.tr c4⟩
theorem Tr_join_e {A : Ab} {s : Nat → Nat} {R : Nat} {k : St} (hA : WF A) (hg : Sg A s R) (hK : RK A s R k) {r : Nat} (hr : r < R) (hw : A 13 (s r) ≤ A 0 3) : ∃ (k2 : St) (B : Ab) (z : Nat), Tr_join k (nI r) = some (nI z, k2) ∧ Jo A (s r) (A 13 (s r)) B z ∧ RK B s R k2 ∧ FK k k2 := by
  have hN := hA.1.1
  have hR21 := hg.1
  unfold Tr_join
  rw [rd_n (by omega) (by omega), b1_some, hK.wa hr]
  exact join10 hA hg hr _ FU k hK hw (by rw [FU_e]; omega)
/-- joining comes to one end -/
theorem Jo_uniq {A : Ab} {r : Nat} : ∀ k B C z y, Jo A r k B z → Jo A r k C y → B = C ∧ z = y := by
  intro k
  induction k with
  | zero => intro B C z y h1 h2; exact ⟨by rw [h1.1, h2.1], by rw [h1.2, h2.2]⟩
  | succ k ih =>
    intro B C z y h1 h2
    rcases h1 with ⟨D, a1, a2, a3, a4⟩ | ⟨a1, a2⟩ <;> rcases h2 with ⟨E, b1', b2', b3, b4⟩ | ⟨b1', b2'⟩
    · rw [Gr_uniq a1 b1'] at a3
      exact ⟨by rw [a3, b3], by rw [a4, b4]⟩
    · exact absurd a2 (b1' D a1)
    · exact absurd b2' (a1 E b1')
    · exact ih B C z y a2 b2'
