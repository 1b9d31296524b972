/-! ===== PHASE B: pruning, in the reference, whole ===== -/
/-- what pruning leaves -/
def Prd (A B : Ab) : Prop := Sub A B ∧ ∀ n, n < 16 → B 10 n ≠ 0 → Req A n
def cnt (B : Ab) : Nat → Nat
  | 0 => 0
  | n + 1 => cnt B n + if B 10 n = 0 then 0 else 1
theorem cnt_le (B : Ab) : ∀ n, cnt B n ≤ n := by
  intro n
  induction n with
  | zero => exact Nat.le_refl _
  | succ n ih => rw [cnt]; split <;> omega
theorem cnt_cut {B : Ab} {j : Nat} (hj : B 10 j ≠ 0) : ∀ n, cnt (up2 B 10 j 0) n = if j < n then cnt B n - 1 else cnt B n := by
  intro n
  induction n with
  | zero => rw [if_neg (by omega)]; rfl
  | succ n ih =>
    rw [cnt, cnt, ih]
    by_cases e : j = n
    · subst e; rw [up2_same, if_neg (by omega), if_pos rfl, if_pos (by omega), if_neg hj]; omega
    · rw [up2_ne (Or.inr (fun x => e x.symm))]
      by_cases c : j < n
      · rw [if_pos c, if_pos (show j < n + 1 by omega)]
        have : 1 ≤ cnt B n := by
          clear ih e
          induction n with
          | zero => omega
          | succ n ih2 =>
            rw [cnt]
            by_cases d : j = n
            · subst d; rw [if_neg hj]; omega
            · have := ih2 (by omega); omega
        omega
      · rw [if_neg c, if_neg (show ¬ j < n + 1 by omega)]
theorem cnt_pos {B : Ab} {j : Nat} (hj : B 10 j ≠ 0) : ∀ n, j < n → 1 ≤ cnt B n := by
  intro n
  induction n with
  | zero => intro h; omega
  | succ n ih =>
    intro h
    rw [cnt]
    by_cases d : j = n
    · subst d; rw [if_neg hj]; omega
    · have := ih (by omega); omega
theorem prune10 {A : Ab} (hs : WFs A) (ht : WFt A) (hr : WFr A) (hl14 : ∀ r, r < 21 → A 14 r ≤ 5) (k : Int32 → St → Option St) : ∀ (fu x fl : Nat) (B : Ab) (m : St), RM B m → Sub A B → 1 ≤ x → x ≤ A 0 0 → A 0 0 < x + fu → fl ≤ 1 → ∃ (m2 : St) (B2 : Ab) (fl2 : Nat), M_prunes_L10 k fu (nI fl) (nI x) m = k (nI fl2) m2 ∧ RM B2 m2 ∧ Sub A B2 ∧ Fw m m2 ∧ fl2 ≤ 1 ∧ cnt B2 16 ≤ cnt B 16 ∧ (fl2 = 1 → fl = 1 ∨ cnt B2 16 < cnt B 16) ∧ (fl2 = 0 → fl = 0 ∧ B2 = B ∧ ∀ y, x ≤ y → y < A 0 0 → B 10 y ≠ 0 → ¬ Bare B y) := by
  have hN := hs.1
  intro fu
  induction fu with
  | zero => intro x fl B m _ _ _ h1 h2; omega
  | succ fu ih =>
    intro x fl B m hR hS h1 h2 h3 hfl
    have hsB := WFs_es hS.ec.s hs
    have e00 : B 0 0 = A 0 0 := by rw [hS.1 0 (by omega)]
    have e14 : B 14 = A 14 := hS.1 14 (by omega)
    have e11 : B 11 = A 11 := hS.1 11 (by omega)
    rw [M_prunes_L10]; unfold M_prunes_B10
    rw [li0]
    simp (disch := omega) only [b1_some, b2_some, lt_e, rd_n, wr_n, nI_add, pk_mul, nI_leI, nI_ltI, nI_eq, nI_1, hR.g0]
    by_cases e : x < A 0 0
    · have skip : (B 10 x ≠ 0 → ¬ Bare B x) → ∃ (m2 : St) (B2 : Ab) (fl2 : Nat), M_prunes_L10 k fu (nI fl) (nI (x + 1)) m = k (nI fl2) m2 ∧ RM B2 m2 ∧ Sub A B2 ∧ Fw m m2 ∧ fl2 ≤ 1 ∧ cnt B2 16 ≤ cnt B 16 ∧ (fl2 = 1 → fl = 1 ∨ cnt B2 16 < cnt B 16) ∧ (fl2 = 0 → fl = 0 ∧ B2 = B ∧ ∀ y, x ≤ y → y < A 0 0 → B 10 y ≠ 0 → ¬ Bare B y) := fun q => by
        obtain ⟨m2, B2, fl2, g1, g2, g3, g4, g5, g6, g7, g8⟩ := ih (x + 1) fl B m hR hS (by omega) (by omega) (by omega) hfl
        refine ⟨m2, B2, fl2, g1, g2, g3, g4, g5, g6, g7, fun z => ⟨(g8 z).1, (g8 z).2.1, fun y a b c => ?_⟩⟩
        by_cases w : y = x
        · rw [w] at c ⊢; exact q c
        · exact (g8 z).2.2 y (by omega) b c
      rw [if_neg (by omega), M_isIn_e (par_bd hsB hS.2.2.1) hR (by omega), b1_some]
      by_cases c1 : B 10 x = 0
      · rw [if_pos c1, if_pos li0]; exact skip (fun z => absurd c1 z)
      · rw [if_neg c1, if_neg (by decide)]
        obtain ⟨z, z1, z2⟩ := M_isBare_e hsB hS.2.2.1 (by rw [e14]; exact hl14) (fun r a b => by rw [e14] at b; rw [e11]; exact (WFr.in hs hr a b).1) hR (n := x) (by omega)
        rw [z1, b1_some]
        rcases z2 with ⟨z2, z3⟩ | ⟨z2, z3⟩
        · rw [z2, if_neg (by decide)]
          simp (disch := omega) only [b1_some, b2_some, lt_e, rd_n, wr_n, nI_add, pk_mul, nI_leI, nI_ltI, nI_eq, nI_1, li80]
          have hR2 := RM.par hsB hR (n := x) 0 (by omega)
          rw [pI_0] at hR2
          have hF2 : Fw m (st m 4 (80 + x) (-1)) := Fw.st (Or.inl rfl)
          have hc1 := cnt_cut c1 16
          have hc2 := cnt_pos c1 16 (by omega)
          rw [if_pos (by omega)] at hc1
          obtain ⟨m2, B2, fl2, g1, g2, g3, g4, g5, g6, g7, g8⟩ := ih (x + 1) 1 _ _ hR2 (hS.cut hs ht hr (by omega) (by omega) z3) (by omega) (by omega) (by omega) (by omega)
          refine ⟨m2, B2, 1, ?_, g2, g3, hF2.tr g4, by omega, by omega, fun _ => Or.inr (by omega), fun z => by omega⟩
          have hfl2 : fl2 = 1 := by
            apply Classical.byContradiction
            intro w
            have := (g8 (by omega)).1
            omega
          rw [hfl2] at g1; exact g1
        · rw [z2, if_pos li0]; exact skip (fun _ => z3)
    · rw [if_pos (by omega)]
      exact ⟨m, B, fl, rfl, hR, hS, Fw.rf, hfl, by omega, fun z => Or.inl z, fun z => ⟨z, rfl, fun y a b => by omega⟩⟩
theorem prune2 {A : Ab} (hs : WFs A) (ht : WFt A) (hr : WFr A) (hl14 : ∀ r, r < 21 → A 14 r ≤ 5) : ∀ (fu : Nat) (B : Ab) (m : St), RM B m → Sub A B → cnt B 16 + 1 < fu → ∃ (m2 : St) (B2 : Ab), M_prunes_L2 fu (nI 1) m = some m2 ∧ RM B2 m2 ∧ Prd A B2 ∧ Fw m m2 := by
  have hN := hs.1
  intro fu
  induction fu with
  | zero => intro B m _ _ h; omega
  | succ fu ih =>
    intro B m hR hS hc
    rw [M_prunes_L2]; unfold M_prunes_B2
    rw [if_neg (by decide), li0, li1]
    obtain ⟨m2, B2, fl2, g1, g2, g3, g4, g5, g6, g7, g8⟩ := prune10 hs ht hr hl14 (fun y9 q10 => M_prunes_L2 fu y9 q10) FU 1 0 B m hR hS (by omega) (by omega) (by rw [FU_e]; omega) (by omega)
    rw [g1]
    by_cases e : fl2 = 0
    · have g8 := g8 e
      rw [e]
      cases fu with
      | zero => omega
      | succ fu =>
        rw [M_prunes_L2]; unfold M_prunes_B2
        rw [if_pos li0.symm]
        refine ⟨m2, B2, rfl, g2, ⟨g3, Sub.end hs ht hr g3 (fun n a b c => ?_)⟩, g4⟩
        rw [g8.2.1] at c ⊢
        exact g8.2.2 n a b c
    · have e1 : fl2 = 1 := by omega
      rw [e1]
      have := g7 e1
      obtain ⟨m3, B3, f1, f2, f3, f4⟩ := ih B2 m2 g2 g3 (by omega)
      exact ⟨m3, B3, f1, f2, f3, g4.tr f4⟩
theorem M_prunes_e {A : Ab} {m : St} (hs : WFs A) (ht : WFt A) (hr : WFr A) (hl14 : ∀ r, r < 21 → A 14 r ≤ 5) (hR : RM A m) : ∃ (m2 : St) (B : Ab), M_prunes m = some m2 ∧ RM B m2 ∧ Prd A B ∧ Fw m m2 := by
  unfold M_prunes
  rw [li1]
  exact prune2 hs ht hr hl14 FU A m hR (Sub.rf ht) (by have := cnt_le A 16; rw [FU_e]; omega)
