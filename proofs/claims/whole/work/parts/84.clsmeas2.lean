/-! ===== PHASE B: measuring, in the class, whole ===== -/
def F2 (k k2 : St) : Prop := (∀ j, j ≠ 159 → j ≠ 160 → k2.1 j = k.1 j) ∧ k2.2 = k.2
theorem F2.rf {k : St} : F2 k k := ⟨fun _ _ _ => rfl, rfl⟩
theorem F2.tr {a b c : St} (h : F2 a b) (h2 : F2 b c) : F2 a c := ⟨fun j x y => (h2.1 j x y).trans (h.1 j x y), h2.2.trans h.2⟩
theorem F2.s {a b : St} (h : F2 a b) : FS a b := ⟨fun j x => h.1 j (by omega) (by omega), h.2⟩
theorem F2.a {k : St} {i : Nat} {v : Int32} : F2 k (st k 159 i v) := ⟨fun j x y => st_row_ne x, rfl⟩
theorem F2.b {k : St} {i : Nat} {v : Int32} : F2 k (st k 160 i v) := ⟨fun j x y => st_row_ne y, rfl⟩
def KDm (A : Ab) (k : St) : Prop := ∀ n f, n < 16 → f < A 0 2 → gt k 158 (n * 4 + f) = nI (dmd A n f)
theorem F2.d {A : Ab} {a b : St} (h : F2 a b) (hd : KDm A a) : KDm A b := fun n f hn hf => by rw [gt_e, h.1 158 (by omega) (by omega)]; exact hd n f hn hf
theorem slK_le {A : Ab} (hA : WF A) {n : Nat} : ∀ g, g ≤ A 0 2 → slK A n g ≤ 4995 * g ∧ csK A n g ≤ 495 * g := by
  have hN := hA.1.1
  intro g
  induction g with
  | zero => intro _; exact ⟨Nat.le_refl _, Nat.le_refl _⟩
  | succ g ih =>
    intro hg
    have h1 := ih (by omega)
    have h2 := (ask_le hA.1 hA.2.2.2 (n := n) (f := g) (by omega)).2
    have h3 := (rt_le hA.1 (f := g) (by omega) (dmd A n g) h2).1
    have h4 := hA.1.2.2.2.2.1 g (by omega)
    have h5 : A 5 g * dmd A n g ≤ 99 * 5 := Nat.mul_le_mul h4 (by omega)
    rw [slK, csK]
    split <;> omega
theorem loads11 {A : Ab} {s : Nat → Nat} {R : Nat} (hA : WF A) {n u up : Nat} (hn : n < A 0 0) (hu : u < A 0 1 ∨ up = 0) {v2 : Int32} (hv : v2 = if up = 1 then nI u else -1) (hup : up ≤ 1) (k0 : St) : ∀ (fu f : Nat) (k : St), RK A s R k → KDm A k → F2 k0 k → (∀ l, gt k 159 l = if up = 1 ∧ l = u then nI (slK A n f) else gt k0 159 l) → (∀ j, gt k 160 j = if j = n then nI (csK A n f) else gt k0 160 j) → f ≤ A 0 2 → A 0 2 < f + fu → ∃ k2, Fl_addLoads_L11 fu (nI n) v2 (nI f) k = some k2 ∧ F2 k0 k2 ∧ (∀ l, gt k2 159 l = if up = 1 ∧ l = u then nI (slK A n (A 0 2)) else gt k0 159 l) ∧ ∀ j, gt k2 160 j = if j = n then nI (csK A n (A 0 2)) else gt k0 160 j := by
  have hN := hA.1.1
  intro fu
  induction fu with
  | zero => intro f k _ _ _ _ _ h1 h2; omega
  | succ fu ih =>
    intro f k hK hD hF hl hc h1 h2
    rw [Fl_addLoads_L11]; unfold Fl_addLoads_B11
    rw [hK.n2, li4]
    simp (disch := omega) only [b1_some, b2_some, lt_e, rd_n, wr_n, nI_add, pk_mul, nI_leI, nI_ltI, nI_eq, nI_1]
    by_cases e : f < A 0 2
    · have hp := hK.pl (n := n) (f := f) (by omega) (by omega)
      have hpc := hA.2.2.1.2 n f (by omega) (by omega)
      have hdm := (ask_le hA.1 hA.2.2.2 (n := n) (f := f) e).2
      rw [if_neg (by omega)]
      simp (disch := omega) only [b1_some, b2_some, lt_e, rd_n, wr_n, nI_add, pk_mul, nI_leI, nI_ltI, nI_eq, nI_1, hp]
      by_cases c : A 9 (4 * n + f) = 1
      · rw [c, if_neg (by decide)]
        have hcost := hK.cost (hpc.2 c).2.1 e
        have h160 := hc n
        rw [if_pos rfl] at h160
        simp (disch := omega) only [b1_some, b2_some, lt_e, rd_n, wr_n, nI_add, pk_mul, nI_leI, nI_ltI, nI_eq, nI_1, hD n f (by omega) e, hcost, h160]
        refine ih (f + 1) _ (FS.rk (F2.b).s hK) ((F2.b).d hD) (hF.tr F2.b) (fun l => ?_) (fun j => ?_) (by omega) (by omega)
        · rw [gt_st_k (by omega), hl l, slK, if_pos c]
        · by_cases d : j = n
          · subst d; rw [gt_st_same, if_pos rfl, csK, if_pos c]
          · rw [gt_st_i d, if_neg d, hc j, if_neg d]
      · have c0 : A 9 (4 * n + f) = 0 := by omega
        rw [c0, if_pos li0.symm]
        by_cases d : up = 1
        · rw [hv, if_pos d, if_neg (nI_neg1 (by omega))]
          have h159 := hl u
          rw [if_pos ⟨d, rfl⟩] at h159
          unfold Su_rateOf
          rw [li6]
          simp (disch := omega) only [b1_some, b2_some, lt_e, rd_n, wr_n, nI_add, pk_mul, nI_leI, nI_ltI, nI_eq, nI_1, hD n f (by omega) e, h159, hK.rate e hdm]
          have := ih (f + 1) (st k 159 u (nI (slK A n f + rt A f (dmd A n f)))) (FS.rk (F2.a).s hK) ((F2.a).d hD) (hF.tr F2.a) (fun l => by
            by_cases w : l = u
            · subst w; rw [gt_st_same, if_pos ⟨d, rfl⟩, slK, if_neg c]
            · rw [gt_st_i w, if_neg (fun z => w z.2), hl l, if_neg (fun z => w z.2)]) (fun j => by
            rw [gt_st_k (by omega), hc j, csK, if_neg c]) (by omega) (by omega)
          rw [hv, if_pos d] at this
          exact this
        · rw [hv, if_neg d, if_pos rfl]
          have := ih (f + 1) k hK hD hF (fun l => by rw [hl l, if_neg (fun z => d z.1), if_neg (fun z => d z.1)]) (fun j => by rw [hc j, csK, if_neg c]) (by omega) (by omega)
          rw [hv, if_neg d] at this
          exact this
    · rw [if_pos (by omega)]
      have : f = A 0 2 := by omega
      subst this
      exact ⟨k, rfl, hF, hl, hc⟩
theorem lnk_sym {A : Ab} (hs : WFs A) {a b l : Nat} (h : Lk A a b l) : lnk A b a = lnk A a b ∧ lq A b a = 1 := ⟨by rw [lnk_e hs h, lnk_e hs h.symm], lq_of hs h.symm⟩
theorem Sp_uplink_e {A : Ab} {s : Nat → Nat} {R : Nat} {k : St} (hA : WF A) (hK : RK A s R k) {n : Nat} (hn : n < 16) : Sp_uplink k (nI n) = some (if n ≠ 0 ∧ A 10 n ≠ 0 then nI (lnk A n (upn A n)) else -1) := by
  have hN := hA.1.1
  unfold Sp_uplink
  simp (disch := omega) only [b1_some, b2_some, lt_e, rd_n, wr_n, nI_add, pk_mul, nI_leI, nI_ltI, nI_eq, nI_1, hK.par hn]
  by_cases c : n ≠ 0 ∧ A 10 n ≠ 0
  · have hu := inT_up hA.1 hA.2.1 ⟨hn, c.2⟩ c.1
    obtain ⟨l, hl⟩ := hu.2.2.2.2.2
    have hb := hu.2.2.2.1
    have hsy := lnk_sym hA.1 hl
    rw [pK_up hA.1 hA.2.1 ⟨hn, c.2⟩ c.1, if_neg (nI_neg1 (by omega)), li16]
    simp (disch := omega) only [b1_some, b2_some, lt_e, rd_n, wr_n, nI_add, pk_mul, nI_leI, nI_ltI, nI_eq, nI_1, hK.at (show upn A n < 16 by omega) hn]
    rw [if_pos hsy.2, hsy.1, if_pos c]
  · rw [if_neg c]
    have : pK (A 10 n) = -1 := by
      by_cases z : n = 0
      · rw [z]; exact pK_0 hA.2.1
      · have : A 10 n = 0 := by
          apply Classical.byContradiction
          intro w; exact c ⟨z, w⟩
        rw [this]; rfl
    rw [this, if_pos rfl]
theorem out_N {A : Ab} (hs : WFs A) (ht : WFt A) {n : Nat} (hn : n < 16) (h : A 0 0 ≤ n) : A 10 n = 0 := by
  have hN := hs.1
  apply Classical.byContradiction
  intro w
  have := ht.2.1 n hn (by omega)
  have := (ht.2.2.1 n hn (by omega)).1
  omega
theorem mx_cut {g : Nat → Nat} {a : Nat} : ∀ b, a ≤ b → (∀ i, a ≤ i → i < b → g i = 0) → mx g b = mx g a := by
  intro b
  induction b with
  | zero => intro h _; rw [show a = 0 by omega]
  | succ b ih =>
    intro h h2
    by_cases e : a = b + 1
    · rw [e]
    · rw [mx, h2 b (by omega) (by omega), ih (by omega) (fun i x y => h2 i x (by omega))]; omega
def lg (A : Ab) (l n : Nat) : Nat := if n ≠ 0 ∧ A 10 n ≠ 0 ∧ lnk A n (upn A n) = l then sl A (arD A) n (A 0 2) else 0
theorem meas50 {A : Ab} {s : Nat → Nat} {R : Nat} (hA : WF A) : ∀ (fu n : Nat) (k : St), RK A s R k → KDm A k → (∀ l, l < 32 → gt k 159 l = nI (mx (lg A l) n)) → (∀ j, j < 16 → gt k 160 j = nI (if j < n then cld A j else 0)) → n ≤ A 0 0 → A 0 0 < n + fu → ∃ k2, Fl_measure_L50 fu (nI n) k = some k2 ∧ F2 k k2 ∧ (∀ l, l < 32 → gt k2 159 l = nI (mx (lg A l) (A 0 0))) ∧ ∀ j, j < A 0 0 → gt k2 160 j = nI (cld A j) := by
  have hN := hA.1.1
  intro fu
  induction fu with
  | zero => intro n k _ _ _ _ h1 h2; omega
  | succ fu ih =>
    intro n k hK hD hl hc h1 h2
    rw [Fl_measure_L50]; unfold Fl_measure_B50
    rw [hK.n0]
    simp (disch := omega) only [b1_some, b2_some, lt_e, rd_n, wr_n, nI_add, pk_mul, nI_leI, nI_ltI, nI_eq, nI_1]
    by_cases e : n < A 0 0
    · rw [if_neg (by omega)]
      unfold Fl_addLoads
      rw [Sp_uplink_e hA hK (by omega), b1_some]
      have hcs : csK A n (A 0 2) = cld A n := by rw [csK_e hA.2.2.1 (by omega) _ (by omega)]; rfl
      have hc0 := hc n (by omega)
      rw [if_neg (by omega)] at hc0
      by_cases c : n ≠ 0 ∧ A 10 n ≠ 0
      · have hin : inT A n := ⟨by omega, c.2⟩
        have hu := inT_up hA.1 hA.2.1 hin c.1
        obtain ⟨l0, hl0⟩ := hu.2.2.2.2.2
        have hlb : lnk A n (upn A n) < A 0 1 := by rw [lnk_e hA.1 hl0]; exact hl0.1
        have hz : mx (lg A (lnk A n (upn A n))) n = 0 := by
          have : mx (lg A (lnk A n (upn A n))) n ≤ 0 := mx_le n (fun i hi => by
            show (if i ≠ 0 ∧ A 10 i ≠ 0 ∧ lnk A i (upn A i) = lnk A n (upn A n) then _ else 0) ≤ 0
            rw [if_neg (fun z => by
              have := uplink_inj hA.1 hA.2.1 ⟨by omega, z.2.1⟩ hin z.1 c.1 z.2.2
              omega)]
            exact Nat.le_refl _)
          omega
        have h159 := hl (lnk A n (upn A n)) (by omega)
        rw [hz] at h159
        obtain ⟨k2, a1, a2, a3, a4⟩ := loads11 hA e (u := lnk A n (upn A n)) (up := 1) (Or.inl hlb) (v2 := nI (lnk A n (upn A n))) (by rw [if_pos rfl]) (by omega) k FU 0 k hK hD F2.rf (fun l => by
          by_cases w : l = lnk A n (upn A n)
          · rw [if_pos ⟨rfl, w⟩, w, h159]; rfl
          · rw [if_neg (fun z => w z.2)]) (fun j => by
          by_cases w : j = n
          · rw [if_pos w, w, hc0]; rfl
          · rw [if_neg w]) (by omega) (by rw [FU_e]; omega)
        rw [if_pos c, li0, a1, b1_some]
        obtain ⟨k3, b1', b2', b3', b4'⟩ := ih (n + 1) k2 (a2.s.rk hK) (a2.d hD) (fun l hl32 => by
          rw [a3 l, mx]
          by_cases w : l = lnk A n (upn A n)
          · rw [if_pos ⟨rfl, w⟩, w, hz, slK_e hA.2.2.1 hin _ (by omega)]
            rw [show lg A (lnk A n (upn A n)) n = sl A (arD A) n (A 0 2) from if_pos ⟨c.1, c.2, rfl⟩, show max 0 (sl A (arD A) n (A 0 2)) = sl A (arD A) n (A 0 2) by omega]
          · rw [if_neg (fun z => w z.2), hl l hl32, show lg A l n = 0 from if_neg (fun z => w z.2.2.symm), show max (mx (lg A l) n) 0 = mx (lg A l) n by omega]) (fun j hj => by
          rw [a4 j]
          by_cases w : j = n
          · rw [if_pos w, w, if_pos (by omega), hcs]
          · rw [if_neg w, hc j hj]
            by_cases x : j < n
            · rw [if_pos x, if_pos (by omega)]
            · rw [if_neg x, if_neg (by omega)]) (by omega) (by omega)
        exact ⟨k3, b1', a2.tr b2', b3', b4'⟩
      · obtain ⟨k2, a1, a2, a3, a4⟩ := loads11 hA e (u := 0) (up := 0) (Or.inr rfl) (v2 := -1) (by rw [if_neg (by omega)]) (by omega) k FU 0 k hK hD F2.rf (fun l => by rw [if_neg (fun z => by omega)]) (fun j => by
          by_cases w : j = n
          · rw [if_pos w, w, hc0]; rfl
          · rw [if_neg w]) (by omega) (by rw [FU_e]; omega)
        rw [if_neg c, li0, a1, b1_some]
        obtain ⟨k3, b1', b2', b3', b4'⟩ := ih (n + 1) k2 (a2.s.rk hK) (a2.d hD) (fun l hl32 => by
          rw [a3 l, mx, if_neg (fun z => by omega), hl l hl32, show lg A l n = 0 from if_neg (fun z => c ⟨z.1, z.2.1⟩), show max (mx (lg A l) n) 0 = mx (lg A l) n by omega]) (fun j hj => by
          rw [a4 j]
          by_cases w : j = n
          · rw [if_pos w, w, if_pos (by omega), hcs]
          · rw [if_neg w, hc j hj]
            by_cases x : j < n
            · rw [if_pos x, if_pos (by omega)]
            · rw [if_neg x, if_neg (by omega)]) (by omega) (by omega)
        exact ⟨k3, b1', a2.tr b2', b3', b4'⟩
    · rw [if_pos (by omega)]
      have : n = A 0 0 := by omega
      subst this
      refine ⟨k, rfl, F2.rf, hl, fun j hj => ?_⟩
      rw [hc j (by omega), if_pos hj]
theorem Fl_measure_e {A : Ab} {s : Nat → Nat} {R : Nat} {k : St} (hA : WF A) (hg : Sg A s R) (hK : RK A s R k) : ∃ k2, Fl_measure k = some k2 ∧ FS k k2 ∧ KM A k2 ∧ ∀ j, 161 ≤ j → k2.1 j = k.1 j := by
  have hN := hA.1.1
  have hR21 := hg.1
  unfold Fl_measure
  obtain ⟨k1, a1, a2, a3, a4⟩ := J_fill_e (len := 64) (p := 158) (v := 0) k (by omega)
  rw [a1, b1_some]
  obtain ⟨k2, b1', b2', b3', b4'⟩ := J_fill_e (len := 32) (p := 159) (v := 0) k1 (by omega)
  rw [b1', b1_some]
  obtain ⟨k3, c1, c2, c3, c4⟩ := J_fill_e (len := 16) (p := 160) (v := 0) k2 (by omega)
  rw [c1, b1_some]
  have hF3 : FS k k3 := ⟨fun j x => ((c2 j (by omega)).trans (b2' j (by omega))).trans (a2 j (by omega)), (c3.trans b3').trans a3⟩
  have hK3 := hF3.rk hK
  have hD3 : KD (fun _ _ => 0) k3 := fun n f hn hf => ⟨by rw [gt_e, c2 158 (by omega), b2' 158 (by omega)]; exact a4 _ (by omega), Nat.zero_le _⟩
  obtain ⟨k4, D4, d1, d2, d3, d4⟩ := meas26 hA hg (fun q6 => Fl_measure_L50 FU 0 q6) FU 0 k3 _ hK3 hD3 (fun n f y hy => ⟨fun h => by omega, fun ⟨q, h, _⟩ => by omega⟩) (by omega) (by rw [FU_e]; omega)
  rw [show nI 0 = 0 from rfl] at d1
  rw [d1]
  have hDm : KDm A k4 := fun n f hn hf => by
    rw [(d2 n f hn (by omega)).1]
    have key : ∀ y, 1 ≤ y → (y ≤ D4 n f ↔ y ≤ dmd A n f) := fun y hy => by
      rw [d4 n f y hy, dmd_iff hA.1 hA.2.1 hA.2.2.2 hy hn hf]
      constructor
      · rintro ⟨q, q1, q2, g, q3, q4⟩
        exact ⟨s q, g, hg.2.1 q q1, q2, q3, q4.elim (fun z => Or.inl z.symm) (fun z => Or.inr z.symm)⟩
      · rintro ⟨r, g, q1, q2, q3, q4⟩
        obtain ⟨q, w1, w2⟩ := hg.2.2.2.1 r q1 (by omega)
        subst w2
        exact ⟨q, w1, q2, g, q3, q4.elim (fun z => Or.inl z.symm) (fun z => Or.inr z.symm)⟩
    have : D4 n f = dmd A n f := by
      have k1 := key (D4 n f)
      have k2 := key (dmd A n f)
      by_cases z : D4 n f = 0
      · by_cases w : dmd A n f = 0
        · omega
        · have := (k2 (by omega)).mpr (Nat.le_refl _); omega
      · have := (k1 (by omega)).mp (Nat.le_refl _)
        by_cases w : dmd A n f = 0
        · omega
        · have := (k2 (by omega)).mpr (Nat.le_refl _); omega
    rw [this]
  have h159 : ∀ l, l < 32 → gt k4 159 l = nI (mx (lg A l) 0) := fun l hl => by
    rw [gt_e, d3.1 159 (by omega), c2 159 (by omega)]; exact b4' l hl
  have h160 : ∀ j, j < 16 → gt k4 160 j = nI (if j < 0 then cld A j else 0) := fun j hj => by
    rw [gt_e, d3.1 160 (by omega), if_neg (by omega)]; exact c4 j hj
  obtain ⟨k5, e1, e2, e3, e4⟩ := meas50 hA FU 0 k4 (d3.s.rk hK3) hDm h159 h160 (by omega) (by rw [FU_e]; omega)
  refine ⟨k5, e1, (hF3.tr d3.s).tr e2.s, ⟨e2.d hDm, fun l hl => ?_, e4⟩, fun j hj => by rw [e2.1 j (by omega) (by omega), d3.1 j (by omega), c2 j (by omega), b2' j (by omega), a2 j (by omega)]⟩
  rw [e3 l (by omega)]
  have : mx (lg A l) 16 = mx (lg A l) (A 0 0) := mx_cut 16 (by omega) (fun i h1 h2 => if_neg (fun z => z.2.1 (out_N hA.1 hA.2.1 h2 h1)))
  rw [← this]; rfl
theorem over2 {A : Ab} {s : Nat → Nat} {R : Nat} {k : St} (hA : WF A) (hK : RK A s R k) (hM : KM A k) : ∀ (fu j i : Nat), i + j = A 0 1 → j < fu → Fl_overloadedLink_L2 k fu (nI i) = some (if fs (fun l => decide (A 7 l < lld A l)) j i < A 0 1 then nI (fs (fun l => decide (A 7 l < lld A l)) j i) else -1) := by
  have hN := hA.1.1
  intro fu
  induction fu with
  | zero => intro j i _ h; omega
  | succ fu ih =>
    intro j i h1 h2
    rw [Fl_overloadedLink_L2]; unfold Fl_overloadedLink_B2
    rw [hK.n1]
    simp (disch := omega) only [b1_some, b2_some, lt_e, rd_n, wr_n, nI_add, pk_mul, nI_leI, nI_ltI, nI_eq, nI_1]
    cases j with
    | zero => rw [if_pos (by omega), fs, if_neg (by omega)]
    | succ j =>
      rw [if_neg (by omega), fs]
      have hl := lld_le hA.1 hA.2.2.2 (l := i)
      have hcp := (hA.2.2.1.1 i (by omega)).1
      have e9 := hM.2.1 i (by omega)
      simp (disch := omega) only [b1_some, b2_some, lt_e, rd_n, wr_n, nI_add, pk_mul, nI_leI, nI_ltI, nI_eq, nI_1, hK.cap, e9]
      by_cases c : A 7 i < lld A i
      · rw [if_neg (by omega), if_pos (decide_eq_true c), if_pos (by omega)]
      · rw [if_pos (by omega), if_neg (fun x => c (of_decide_eq_true x))]
        exact ih j (i + 1) (by omega) (by omega)
theorem overN2 {A : Ab} {s : Nat → Nat} {R : Nat} {k : St} (hA : WF A) (hK : RK A s R k) (hM : KM A k) : ∀ (fu j i : Nat), i + j = A 0 0 → j < fu → Fl_overloadedNode_L2 k fu (nI i) = some (if fs (fun n => decide (A 4 n < cld A n)) j i < A 0 0 then nI (fs (fun n => decide (A 4 n < cld A n)) j i) else -1) := by
  have hN := hA.1.1
  intro fu
  induction fu with
  | zero => intro j i _ h; omega
  | succ fu ih =>
    intro j i h1 h2
    rw [Fl_overloadedNode_L2]; unfold Fl_overloadedNode_B2
    rw [hK.n0]
    simp (disch := omega) only [b1_some, b2_some, lt_e, rd_n, wr_n, nI_add, pk_mul, nI_leI, nI_ltI, nI_eq, nI_1]
    cases j with
    | zero => rw [if_pos (by omega), fs, if_neg (by omega)]
    | succ j =>
      rw [if_neg (by omega), fs]
      have hl := cld_le hA.1 hA.2.2.2 (n := i)
      have hcp := hA.1.2.2.2.1 i (by omega)
      have e9 := hM.2.2 i (by omega)
      simp (disch := omega) only [b1_some, b2_some, lt_e, rd_n, wr_n, nI_add, pk_mul, nI_leI, nI_ltI, nI_eq, nI_1, hK.cpu, e9]
      by_cases c : A 4 i < cld A i
      · rw [if_neg (by omega), if_pos (decide_eq_true c), if_pos (by omega)]
      · rw [if_pos (by omega), if_neg (fun x => c (of_decide_eq_true x))]
        exact ih j (i + 1) (by omega) (by omega)
theorem unm2 {A : Ab} {s : Nat → Nat} {R : Nat} {k : St} (hA : WF A) (hK : RK A s R k) (hM : KM A k) : ∀ (fu j i : Nat), 1 ≤ i → i + j = A 0 2 → j < fu → Fl_unmadeFormat_L2 k fu (nI i) = some (if fs (fun f => decide (0 < ask A 0 f)) j i < A 0 2 then nI (fs (fun f => decide (0 < ask A 0 f)) j i) else -1) := by
  have hN := hA.1.1
  intro fu
  induction fu with
  | zero => intro j i _ _ h; omega
  | succ fu ih =>
    intro j i h0 h1 h2
    rw [Fl_unmadeFormat_L2]; unfold Fl_unmadeFormat_B2
    rw [hK.n2]
    simp (disch := omega) only [b1_some, b2_some, lt_e, rd_n, wr_n, nI_add, pk_mul, nI_leI, nI_ltI, nI_eq, nI_1]
    cases j with
    | zero => rw [if_pos (by omega), fs, if_neg (by omega)]
    | succ j =>
      rw [if_neg (by omega), fs]
      have hl := (ask_le hA.1 hA.2.2.2 (n := 0) (f := i) (by omega))
      have h10 : A 10 0 ≠ 0 := by rw [hA.2.1.1]; omega
      have hask : ask A 0 i = if A 9 i = 1 then 0 else dmd A 0 i := by
        unfold ask dmd as_
        rw [if_neg h10, if_neg h10, show 4 * 0 + i = i by omega]
        by_cases z : A 9 i = 1
        · rw [if_pos z, if_pos ⟨by omega, z⟩]
        · rw [if_neg z, if_neg (fun w => z w.2)]
      have hp := hK.pl (n := 0) (f := i) (by omega) (by omega)
      have hp2 := (hA.2.2.1.2 0 i (by omega) (by omega)).1
      have hd := hM.1 0 i (by omega) (by omega)
      rw [show 0 * 4 + i = i by omega] at hp hd
      rw [show 4 * 0 + i = i by omega] at hp2
      have hq : Fl_asked k 0 (nI i) = some (nI (ask A 0 i)) := by
        unfold Fl_asked
        rw [li0, li4, lt_e]
        simp (disch := omega) only [b1_some, b2_some, lt_e, rd_n, wr_n, nI_add, pk_mul, nI_leI, nI_ltI, nI_eq, nI_1, Nat.zero_mul, Nat.zero_add, hp, hd]
        rw [hask]
        by_cases z : A 9 i = 1
        · rw [if_neg (by omega), if_pos z]
        · rw [if_pos (by omega), if_neg z]
      rw [hq, li0]
      simp (disch := omega) only [b1_some, b2_some, lt_e, rd_n, wr_n, nI_add, pk_mul, nI_leI, nI_ltI, nI_eq, nI_1]
      by_cases c : 0 < ask A 0 i
      · rw [if_neg (by omega), if_pos (decide_eq_true c), if_pos (by omega)]
      · rw [if_pos (by omega), if_neg (fun x => c (of_decide_eq_true x))]
        exact ih j (i + 1) (by omega) (by omega) (by omega)
theorem Fl_over {A : Ab} {s : Nat → Nat} {R : Nat} {k : St} (hA : WF A) (hK : RK A s R k) (hM : KM A k) : Fl_overloadedLink k = some (if wrL A < A 0 1 then nI (wrL A) else -1) ∧ Fl_overloadedNode k = some (if wrN A < A 0 0 then nI (wrN A) else -1) ∧ Fl_unmadeFormat k = some (if wrF A < A 0 2 then nI (wrF A) else -1) := by
  have hN := hA.1.1
  refine ⟨?_, ?_, ?_⟩
  · exact over2 hA hK hM FU (A 0 1) 0 (by omega) (by rw [FU_e]; omega)
  · exact overN2 hA hK hM FU (A 0 0) 0 (by omega) (by rw [FU_e]; omega)
  · exact unm2 hA hK hM FU (A 0 2 - 1) 1 (by omega) (by omega) (by rw [FU_e]; omega)
theorem Fl_fits_e {A : Ab} {s : Nat → Nat} {R : Nat} {k : St} (hA : WF A) (hK : RK A s R k) (hM : KM A k) : (Fit A ∧ Fl_fits k = some 1) ∨ (¬ Fit A ∧ Fl_fits k = some 0) := by
  have hN := hA.1.1
  obtain ⟨h1, h2, h3⟩ := Fl_over hA hK hM
  unfold Fl_fits Fit wrg
  rw [h1, h2, h3]
  by_cases c1 : wrL A < A 0 1
  · rw [if_pos c1, if_pos c1, b1_some, if_neg (nI_neg1 (by omega))]
    exact Or.inr ⟨by omega, rfl⟩
  · rw [if_neg c1, if_neg c1, b1_some, if_pos rfl]
    by_cases c2 : wrN A < A 0 0
    · rw [if_pos c2, if_pos c2, b1_some, if_neg (nI_neg1 (by omega))]
      exact Or.inr ⟨by omega, rfl⟩
    · rw [if_neg c2, if_neg c2, b1_some, if_pos rfl]
      by_cases c3 : wrF A < A 0 2
      · rw [if_pos c3, if_pos c3, b1_some, if_neg (nI_neg1 (by omega))]
        exact Or.inr ⟨by omega, rfl⟩
      · rw [if_neg c3, if_neg c3, b1_some, if_pos rfl]
        exact Or.inl ⟨rfl, rfl⟩
