/-! ===== PHASE B: the reference's measures, whole ===== -/
def Fm (m m2 : St) : Prop := (∀ k, k < 7 ∨ 11 < k → m2.1 k = m.1 k) ∧ m2.2 = m.2
theorem Fm.rf {m : St} : Fm m m := ⟨fun _ _ => rfl, rfl⟩
theorem Fm.tr {a b c : St} (h : Fm a b) (h2 : Fm b c) : Fm a c := ⟨fun k hk => (h2.1 k hk).trans (h.1 k hk), h2.2.trans h.2⟩
theorem Fm.st {m : St} {k i : Nat} {v : Int32} (hk : 7 ≤ k ∧ k ≤ 11) : Fm m (st m k i v) := ⟨fun j hj => st_row_ne (by omega), rfl⟩
theorem Fr.m {m m2 : St} (h : Fr m m2) : Fm m m2 := ⟨fun k hk => h.1 k (by omega), h.2⟩
theorem Fm.rm {A : Ab} {m m2 : St} (h : Fm m m2) (hr : RM A m) : RM A m2 := by
  unfold RM
  rw [h.1 2 (by omega), h.1 4 (by omega)]
  exact hr
theorem meas2 (k : St → Option St) : ∀ (fu i : Nat) (m : St), i ≤ 64 → 64 < i + fu → (∀ j, j < i → gt m 7 j = 0 ∧ gt m 8 j = 0) → ∃ m2, M_measures_L2 k fu (nI i) m = k m2 ∧ Fm m m2 ∧ ∀ j, j < 64 → gt m2 7 j = 0 ∧ gt m2 8 j = 0 := by
  intro fu
  induction fu with
  | zero => intro i m h1 h2; omega
  | succ fu ih =>
    intro i m h1 h2 h3
    rw [M_measures_L2]; unfold M_measures_B2
    by_cases e : i < 64
    · rw [if_neg (fun c => by rw [li64] at c; have := (nI_leI (by omega) (by omega)).mp c; omega), wr_at i rfl e (by omega), b1_some, wr_at i rfl e (by omega), b1_some, nI_1]
      have hF : Fm m (st (st m 7 i 0) 8 i 0) := (Fm.st (m := m) (by omega)).tr (Fm.st (by omega))
      obtain ⟨m2, g1, g2, g3⟩ := ih (i + 1) (st (st m 7 i 0) 8 i 0) (by omega) (by omega) (fun j hj => by
        rw [gt_st_k (k2 := 7) (k := 8) (by omega)]
        by_cases c : j = i
        · subst c; rw [gt_st_same, gt_st_same]; exact ⟨rfl, rfl⟩
        · rw [gt_st_i c, gt_st_i c, gt_st_k (k2 := 8) (k := 7) (by omega)]; exact h3 j (by omega))
      exact ⟨m2, g1, hF.tr g2, g3⟩
    · rw [if_pos (by rw [li64]; exact (nI_leI (by omega) (by omega)).mpr (by omega))]
      exact ⟨m, rfl, Fm.rf, fun j hj => h3 j (by omega)⟩
theorem meas30 (k : St → Option St) : ∀ (fu i : Nat) (m : St), i ≤ 32 → 32 < i + fu → (∀ j, j < i → gt m 9 j = 0) → ∃ m2, M_measures_L30 k fu (nI i) m = k m2 ∧ Fm m m2 ∧ (∀ j, j < 32 → gt m2 9 j = 0) ∧ (m2.1 7 = m.1 7 ∧ m2.1 8 = m.1 8) := by
  intro fu
  induction fu with
  | zero => intro i m h1 h2; omega
  | succ fu ih =>
    intro i m h1 h2 h3
    rw [M_measures_L30]; unfold M_measures_B30
    by_cases e : i < 32
    · rw [if_neg (fun c => by rw [li32] at c; have := (nI_leI (by omega) (by omega)).mp c; omega), wr_at i rfl e (by omega), b1_some, nI_1]
      have hF : Fm m (st m 9 i 0) := Fm.st (by omega)
      obtain ⟨m2, g1, g2, g3, g4⟩ := ih (i + 1) (st m 9 i 0) (by omega) (by omega) (fun j hj => by
        by_cases c : j = i
        · subst c; rw [gt_st_same]
        · rw [gt_st_i c]; exact h3 j (by omega))
      exact ⟨m2, g1, hF.tr g2, g3, g4.1.trans (st_row_ne (by omega)), g4.2.trans (st_row_ne (by omega))⟩
    · rw [if_pos (by rw [li32]; exact (nI_leI (by omega) (by omega)).mpr (by omega))]
      exact ⟨m, rfl, Fm.rf, fun j hj => h3 j (by omega), rfl, rfl⟩
theorem meas51 {A : Ab} (hs : WFs A) (ht : WFt A) (k : St → Option St) : ∀ (fu i : Nat) (m : St), RM A m → i ≤ 16 → 16 < i + fu → (∀ j, j < i → gt m 10 j = 0) → (∀ n, n < i → n < A 0 0 → (A 10 n = 0 → gt m 11 n = -1) ∧ (A 10 n ≠ 0 → gt m 11 n = nI (dep A n))) → ∃ m2, M_measures_L51 k fu (nI i) m = k m2 ∧ Fm m m2 ∧ (∀ j, j < 16 → gt m2 10 j = 0) ∧ RD A m2 ∧ (m2.1 7 = m.1 7 ∧ m2.1 8 = m.1 8 ∧ m2.1 9 = m.1 9) := by
  have hN := hs.1
  intro fu
  induction fu with
  | zero => intro i m _ h1 h2; omega
  | succ fu ih =>
    intro i m hR h1 h2 h3 h4
    rw [M_measures_L51]; unfold M_measures_B51
    by_cases e : i < 16
    · rw [if_neg (fun c => by rw [li16] at c; have := (nI_leI (by omega) (by omega)).mp c; omega), wr_at i rfl e (by omega), b1_some]
      have hF1 : Fm m (st m 10 i 0) := Fm.st (by omega)
      have hR1 := hF1.rm hR
      have fin : ∀ v : Int32, (i < A 0 0 → (A 10 i = 0 → v = -1) ∧ (A 10 i ≠ 0 → v = nI (dep A i))) → ∃ m2, M_measures_L51 k fu (nI (i + 1)) (st (st m 10 i 0) 11 i v) = k m2 ∧ Fm m m2 ∧ (∀ j, j < 16 → gt m2 10 j = 0) ∧ RD A m2 ∧ (m2.1 7 = m.1 7 ∧ m2.1 8 = m.1 8 ∧ m2.1 9 = m.1 9) := fun v hv => by
        have hF2 : Fm m (st (st m 10 i 0) 11 i v) := hF1.tr (Fm.st (by omega))
        obtain ⟨m2, g1, g2, g3, g4, g5⟩ := ih (i + 1) (st (st m 10 i 0) 11 i v) (hF2.rm hR) (by omega) (by omega) (fun j hj => by
          rw [gt_st_k (by omega)]
          by_cases c : j = i
          · subst c; rw [gt_st_same]
          · rw [gt_st_i c]; exact h3 j (by omega)) (fun n hn hnN => by
          by_cases c : n = i
          · subst c; rw [gt_st_same]; exact hv hnN
          · rw [gt_st_i c, gt_st_k (by omega)]; exact h4 n (by omega) hnN)
        rw [st_row_ne (by omega), st_row_ne (by omega), st_row_ne (by omega), st_row_ne (by omega), st_row_ne (by omega), st_row_ne (by omega)] at g5
        exact ⟨m2, g1, hF2.tr g2, g3, g4, g5⟩
      rw [rd_at 0 li0 (by omega) (by omega), b1_some, show gt (st m 10 i 0) 2 0 = nI (A 0 0) from hR1.1.1.1]
      by_cases c1 : A 0 0 ≤ i
      · rw [if_pos ((nI_leI (by omega) (by omega)).mpr c1), wr_at i rfl e (by omega), b1_some, nI_1]
        exact fin (-1) (fun x => by omega)
      · rw [if_neg (fun c => c1 ((nI_leI (by omega) (by omega)).mp c)), M_isIn_e (par_bd hs ht) hR1 e, b1_some]
        by_cases c2 : A 10 i = 0
        · rw [if_pos c2, if_pos rfl, wr_at i rfl e (by omega), b1_some, nI_1]
          exact fin (-1) (fun _ => ⟨fun _ => rfl, fun x => absurd c2 x⟩)
        · rw [if_neg c2, if_neg (by decide), M_depth_e hs ht hR1 ⟨e, c2⟩, b1_some, wr_at i rfl e (by omega), b1_some, nI_1]
          exact fin (nI (dep A i)) (fun _ => ⟨fun x => absurd x c2, fun _ => rfl⟩)
    · rw [if_pos (by rw [li16]; exact (nI_leI (by omega) (by omega)).mpr (by omega))]
      exact ⟨m, rfl, Fm.rf, fun j hj => h3 j (by omega), fun n hn => h4 n (by omega) hn, rfl, rfl, rfl⟩
/-- what is so far wanted, by the receivers below r -/
def owP (A : Ab) (n f r : Nat) : Nat := mx (fun r => if 0 < A 14 r ∧ A 11 r = n ∧ A 12 r = f then A 14 r else 0) r
theorem meas105 {A : Ab} (hs : WFs A) (hr : WFr A) (hl14 : ∀ r, r < 21 → A 14 r ≤ 5) (k : St → Option St) : ∀ (fu r : Nat) (D : Ab) (m : St), RS D m → RM A m → RD A m → r ≤ 21 → 21 < r + fu → (∀ n f, n < 16 → f < 4 → D 0 (4 * n + f) = owP A n f r) → (∀ a j, a ≠ 0 → D a j = 0) → ∃ (m2 : St) (D2 : Ab), M_measures_L105 k fu (nI r) m = k m2 ∧ RS D2 m2 ∧ Fr m m2 ∧ RD A m2 ∧ (∀ n f, n < 16 → f < 4 → D2 0 (4 * n + f) = ow A n f) ∧ (∀ a j, a ≠ 0 → D2 a j = 0) := by
  have hN := hs.1
  intro fu
  induction fu with
  | zero => intro r D m _ _ _ h1 h2; omega
  | succ fu ih =>
    intro r D m hS hR hD h1 h2 h3 h4
    rw [M_measures_L105]; unfold M_measures_B105
    by_cases e : r < 21
    · have e3 : M_of m (nI r) 3 = some (nI (A 14 r)) := M_of_e hR e (w := 3) (by omega)
      have e0 : M_of m (nI r) 0 = some (nI (A 11 r)) := M_of_e hR e (w := 0) (by omega)
      have e1 : M_of m (nI r) 1 = some (nI (A 12 r)) := M_of_e hR e (w := 1) (by omega)
      have hlv := hl14 r e
      rw [if_neg (fun c => by rw [li20] at c; have := (nI_ltI (by omega) (by omega)).mp c; omega), e3, b1_some]
      by_cases c1 : A 14 r = 0
      · rw [if_pos (by rw [c1]; decide), nI_1]
        exact ih (r + 1) D m hS hR hD (by omega) (by omega) (fun n f hn hf => by
          rw [h3 n f hn hf, owP, owP, mx, if_neg (by omega)]; omega) h4
      · obtain ⟨q1, q2, q3, q4⟩ := hr r e (by omega)
        have hbD : ∀ i, i < 64 → D 0 i ≤ 5 := fun i hi => by
          have := h3 (i / 4) (i % 4) (by omega) (by omega)
          rw [show 4 * (i / 4) + i % 4 = i by omega] at this
          rw [this]
          refine mx_le r (fun r2 hr2 => ?_)
          show (if 0 < A 14 r2 ∧ A 11 r2 = i / 4 ∧ A 12 r2 = i % 4 then A 14 r2 else 0) ≤ 5
          split
          · exact hl14 r2 (by omega)
          · omega
        rw [if_neg (fun c => by have := (nI_leI (b := 0) (by omega) (by omega)).mp c; omega), e0, b1_some, e1, b1_some, b1_some, M_wants_e hS hbD (by omega) (by omega) hlv, b1_some, nI_1]
        have hS1 := hS.up (c := 0) (i := 4 * A 11 r + A 12 r) (v := max (D 0 (4 * A 11 r + A 12 r)) (A 14 r)) (by omega)
        have hF : Fr m (st m 7 (4 * A 11 r + A 12 r) (nI (max (D 0 (4 * A 11 r + A 12 r)) (A 14 r)))) := Fr.st (by omega)
        obtain ⟨m2, D2, g1, g2, g3, g4, g5, g6⟩ := ih (r + 1) _ _ hS1 (hF.rm hR) (fun n hn => by rw [gt_st_k (by omega)]; exact hD n hn) (by omega) (by omega) (fun n f hn hf => by
          rw [owP, mx]
          by_cases c : n = A 11 r ∧ f = A 12 r
          · rw [if_pos ⟨by omega, c.1.symm, c.2.symm⟩, c.1, c.2, up2_same, h3 _ _ (by omega) (by omega)]; rfl
          · rw [if_neg (fun x => c ⟨x.2.1.symm, x.2.2.symm⟩), up2_ne (by omega), h3 n f hn hf, owP]; omega) (fun a j ha => by rw [up2_ne (Or.inl ha)]; exact h4 a j ha)
        exact ⟨m2, D2, g1, g2, hF.tr g3, g4, g5, g6⟩
    · rw [if_pos (by rw [li20]; exact (nI_ltI (by omega) (by omega)).mpr (by omega))]
      have : r = 21 := by omega
      subst this
      exact ⟨m, D, rfl, hS, Fr.rf, hD, h3, h4⟩
/-- what measures gives -/
def MS (A D : Ab) : Prop := (∀ n f, n < 16 → f < A 0 2 → D 0 (4 * n + f) = if A 10 n = 0 then 0 else dn A (arD A) n f) ∧ (∀ n f, n < 16 → f < A 0 2 → D 1 (4 * n + f) = if A 10 n = 0 then 0 else as_ A (arD A) n f) ∧ ((∀ n, inT A n → n ≠ 0 → D 2 (lnk A n (upn A n)) = sl A (arD A) n (A 0 2)) ∧ ∀ l, l < 32 → (∀ n, inT A n → n ≠ 0 → lnk A n (upn A n) ≠ l) → D 2 l = 0) ∧ (∀ n, n < 16 → D 3 n = if A 10 n = 0 then 0 else cs A (arD A) n (A 0 2))
theorem M_measures_e {A : Ab} {m : St} (hs : WFs A) (ht : WFt A) (hc : WFc A) (hr : WFr A) (hl14 : ∀ r, r < 21 → A 14 r ≤ 5) (hR : RM A m) : ∃ (m2 : St) (D : Ab), M_measures m = some m2 ∧ RS D m2 ∧ Fm m m2 ∧ MS A D := by
  have hN := hs.1
  unfold M_measures
  obtain ⟨m1, a1, a2, a3⟩ := meas2 (fun q4 => M_measures_L30 (fun q7 => M_measures_L51 (fun q18 => M_measures_L105 (fun q26 => M_measures_L151 FU 16 q26) FU 0 q18) FU 0 q7) FU 0 q4) FU 0 m (by omega) (by rw [FU_e]; omega) (fun j hj => by omega)
  rw [show (0 : Int32) = nI 0 from rfl] at *
  rw [a1]
  obtain ⟨m2, b1, b2, b3, b4⟩ := meas30 (fun q7 => M_measures_L51 (fun q18 => M_measures_L105 (fun q26 => M_measures_L151 FU 16 q26) FU (nI 0) q18) FU (nI 0) q7) FU 0 m1 (by omega) (by rw [FU_e]; omega) (fun j hj => by omega)
  rw [b1]
  obtain ⟨m3, c1, c2, c3, c4, c5⟩ := meas51 hs ht (fun q18 => M_measures_L105 (fun q26 => M_measures_L151 FU 16 q26) FU (nI 0) q18) FU 0 m2 ((a2.tr b2).rm hR) (by omega) (by rw [FU_e]; omega) (fun j hj => by omega) (fun n hn => by omega)
  rw [c1]
  have hR3 := ((a2.tr b2).tr c2).rm hR
  have hS3 : RS (fun _ _ => 0) m3 := by
    refine ⟨fun i hi => ?_, fun i hi => ?_, fun i hi => ?_, fun i hi => ?_⟩
    · rw [gt_e, c5.1, b4.1]; exact (a3 i hi).1
    · rw [gt_e, c5.2.1, b4.2]; exact (a3 i hi).2
    · rw [gt_e, c5.2.2]; exact b3 i hi
    · exact c3 i hi
  obtain ⟨m4, D4, d1, d2, d3, d4, d5, d6⟩ := meas105 hs hr hl14 (fun q26 => M_measures_L151 FU 16 q26) FU 0 _ m3 hS3 hR3 c4 (by omega) (by rw [FU_e]; omega) (fun n f _ _ => rfl) (fun _ _ _ => rfl)
  rw [d1]
  have hp : ∀ c, ¬ prB A 16 0 c = 1 := fun c e => by
    have e := prB_iff.mp e
    have := (dep_le hs ht e.1).1
    omega
  have hM : MI A D4 16 0 := by
    refine ⟨fun n f hn hf => ?_, fun n f hn hf => ?_, ⟨fun n h _ => absurd h (hp n), fun l _ _ => d6 2 l (by omega)⟩, fun n hn => ?_⟩
    · rw [d5 n f hn hf]
      by_cases c : A 10 n = 0 ∨ A 0 2 ≤ f
      · rw [if_pos c]; exact ow_out hr c
      · rw [if_neg c, if_neg (hp n)]
        have : cm A 16 0 n f = 0 := by
          have : cm A 16 0 n f ≤ 0 := mx_le 16 (fun c _ => by
            show (if c ≠ 0 ∧ A 10 c = n + 2 ∧ prB A 16 0 c = 1 then as_ A (arD A) c f else 0) ≤ 0
            rw [if_neg (fun x => hp c x.2.2)]; exact Nat.le_refl _)
          omega
        omega
    · rw [d6 1 _ (by omega), if_neg (hp n)]
    · rw [d6 3 _ (by omega), if_neg (hp n)]
  obtain ⟨m5, D5, f1, f2, f3, f4⟩ := meas151 hs ht hc hr 16 FU D4 m4 d2 (d3.rm hR3) d4 hM (by omega) (by rw [FU_e]; omega)
  refine ⟨m5, D5, f1, f2, (((a2.tr b2).tr c2).tr d3.m).tr f3.m, ?_⟩
  have hq : ∀ c, prB A 0 (A 0 0) c = 1 ↔ inT A c := fun c => by
    rw [prB_iff]
    exact ⟨fun h => h.1, fun h => ⟨h, by have := inT_lt hs ht h; omega⟩⟩
  have hq2 : ∀ c, c < 16 → (prB A 0 (A 0 0) c = 1 ↔ ¬ A 10 c = 0) := fun c hc => by
    rw [hq c]; exact ⟨fun h => h.2, fun h => ⟨hc, h⟩⟩
  refine ⟨fun n f hn hf => ?_, fun n f hn hf => ?_, ⟨fun n h h0 => f4.2.2.1.1 n ((hq n).mpr h) h0, fun l hl hh => f4.2.2.1.2 l hl (fun n h h0 => hh n ((hq n).mp h) h0)⟩, fun n hn => ?_⟩
  · rw [f4.1 n f hn (by omega)]
    by_cases c : A 10 n = 0
    · rw [if_pos (Or.inl c), if_pos c]
    · rw [if_neg (fun x => x.elim c (by omega)), if_pos ((hq2 n hn).mpr c), if_neg c]
  · rw [f4.2.1 n f hn hf]
    by_cases c : A 10 n = 0
    · rw [if_neg (fun x => ((hq2 n hn).mp x) c), if_pos c]
    · rw [if_pos ((hq2 n hn).mpr c), if_neg c]
  · rw [f4.2.2.2 n hn]
    by_cases c : A 10 n = 0
    · rw [if_neg (fun x => ((hq2 n hn).mp x) c), if_pos c]
    · rw [if_pos ((hq2 n hn).mpr c), if_neg c]
