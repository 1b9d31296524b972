/-! ===== PHASE B: both sides in step: trying, joining, raising ===== -/
def Tt (A : Ab) : Prop := ∀ n, 1 ≤ n → n < A 0 0 → A 10 n ≠ 0 → (∃ c, 1 ≤ c ∧ c < A 0 0 ∧ A 10 c = n + 2) ∨ ∃ r, r < 21 ∧ 0 < A 14 r ∧ A 11 r = n
/-- all that is kept between two calls -/
def Cp (A : Ab) : Prop := ∀ n, 1 ≤ n → n < 16 → A 10 n ≠ 0 → 1 ≤ A 7 (lnk A n (upn A n))
def WFg (A : Ab) : Prop := WF A ∧ WFq A ∧ Tt A ∧ (∀ r, r < A 0 4 → A 14 r ≤ A 13 r) ∧ Cp A
def WFh (A : Ab) : Prop := WF A ∧ WFq A ∧ Tt A ∧ ∀ r, r < A 0 4 → A 14 r ≤ A 13 r
theorem WFg.h {A : Ab} (h : WFg A) : WFh A := ⟨h.1, h.2.1, h.2.2.1, h.2.2.2.1⟩
theorem Cp_of {A B : Ab} (h : Cp A) (hE : Es A B) (h7 : ∀ l, B 7 l = A 7 l) (h10 : ∀ j, j < 16 → B 10 j = A 10 j ∨ B 10 j = 0) : Cp B := fun n h1 h2 h3 => by
  have e : B 10 n = A 10 n := (h10 n h2).elim id (fun z => absurd z h3)
  have e2 : upn B n = upn A n := by unfold upn; rw [e]
  rw [e2, (lq_es hE n (upn A n)).1, h7]
  exact h n h1 h2 (by rw [← e]; exact h3)
theorem Tt_prd {A : Ab} (hA : WF A) (h : Tt A) : Prd A A := by
  refine ⟨Sub.rf hA.2.1, Sub.end hA.1 hA.2.1 hA.2.2.2 (Sub.rf hA.2.1) (fun n h1 h2 h3 hb => ?_)⟩
  rcases h n h1 h2 h3 with ⟨c, c1, c2, c3⟩ | ⟨r, r1, r2, r3⟩
  · exact hb.1 c c1 c2 c3
  · exact hb.2 r r1 r2 r3
theorem Prd_Tt {A B : Ab} (hA : WF A) (h : Prd A B) : Tt B := fun n h1 h2 h3 => by
  have hN := hA.1.1
  obtain ⟨e1, e2, e3⟩ := Prd_wf hA h
  have e0 : B 0 0 = A 0 0 := e2 0 0 (by omega) (by omega)
  have e11 : ∀ r, B 11 r = A 11 r := fun r => e2 11 r (by omega) (by omega)
  rw [e0] at h2 ⊢
  rcases h.2 n (by omega) h3 with z | ⟨r, r1, r2, i, i1, i2⟩
  · omega
  · cases i with
    | zero => exact Or.inr ⟨r, r1, by rw [e3]; exact r2, by rw [e11]; exact i2⟩
    | succ i =>
      have hx := WFr.in hA.1 hA.2.2.2 r1 r2
      have hin := chn_inT hA.1 hA.2.1 hx (i := i) (by omega)
      have hz := (dep_le hA.1 hA.2.1 hx).2.2 i (by omega)
      have hu := inT_up hA.1 hA.2.1 hin hz
      rw [chn_succ] at i2
      left
      refine ⟨chn A i (A 11 r), by omega, hu.2.1, ?_⟩
      rw [h.1.2.2.2 _ hin.1 (Or.inr ⟨r, r1, r2, i, by omega, rfl⟩), hu.2.2.2.2.1, i2]
theorem Gr_good {A B : Ab} {r lv : Nat} (h : WFg A) (hr : r < A 0 4) (h1 : 1 ≤ lv) (h2 : lv ≤ A 13 r) (hG : Gr A r lv B) : WFg (up2 B 14 r lv) ∧ Et A (up2 B 14 r lv) := by
  obtain ⟨hA, hq, ht, hlw, hcp⟩ := h
  have h4 := hq.1
  obtain ⟨q1, q2, q3, q4, q5⟩ := hq.2.1 r hr
  obtain ⟨g1, g2, g3⟩ := Gr_wf hA hG q1 q2 (Nat.le_trans h2 q4)
  obtain ⟨s1, s2, s3, s4⟩ := Gr_sp hA.1 hA.2.1 hG q1
  have het : Et A (up2 B 14 r lv) := fun a j x y => g3 a j x (Or.inl y)
  have e10 : ∀ j, up2 B 14 r lv 10 j = B 10 j := fun j => up2_ne (by omega)
  have e0 : up2 B 14 r lv 0 0 = A 0 0 := het 0 0 (by omega) (by omega)
  have e11 : ∀ j, up2 B 14 r lv 11 j = A 11 j := fun j => het 11 j (by omega) (by omega)
  have e04 : up2 B 14 r lv 0 4 = A 0 4 := het 0 4 (by omega) (by omega)
  refine ⟨⟨g1, het.q hq (fun r2 a b => ?_), fun n n1 n2 n3 => ?_, fun j hj => ?_, fun n n1 n2 n3 => ?_⟩, het⟩
  · rw [g3 14 r2 (by omega) (by omega)]; exact hq.2.2 r2 a b
  · rw [e0] at n2 ⊢
    rw [e10] at n3
    have old : A 10 n ≠ 0 → (∃ c, 1 ≤ c ∧ c < A 0 0 ∧ up2 B 14 r lv 10 c = n + 2) ∨ ∃ q, q < 21 ∧ 0 < up2 B 14 r lv 14 q ∧ up2 B 14 r lv 11 q = n := fun z => by
      rcases ht n n1 n2 z with ⟨c, c1, c2, c3⟩ | ⟨q, r1, r2, r3⟩
      · exact Or.inl ⟨c, c1, c2, by rw [e10, s3 c (by omega)]; exact c3⟩
      · refine Or.inr ⟨q, r1, ?_, by rw [e11]; exact r3⟩
        by_cases d : q = r
        · rw [d, up2_same]; omega
        · rw [g3 14 q (by omega) (by omega)]; exact r2
    rcases hG with ⟨a, b⟩ | ⟨a, w, b, c⟩
    · rw [b] at n3; exact old n3
    · by_cases z : A 10 n = 0
      · have hex : ∃ y, 1 ≤ y ∧ y ≤ w ∧ pth A (rt A (A 12 r) lv) (xM A (rt A (A 12 r) lv) (A 11 r)) (frs A (rt A (A 12 r) lv) (xM A (rt A (A 12 r) lv) (A 11 r))) y = n := by
          apply Classical.byContradiction
          intro no
          rw [c, att_ne w 10 n (Or.inr fun y a b e => no ⟨y, a, b, e⟩)] at n3
          exact n3 z
        obtain ⟨y, y1, y2, y3⟩ := hex
        by_cases l : y = w
        · refine Or.inr ⟨r, by omega, by rw [up2_same]; omega, ?_⟩
          rw [e11, ← y3, l, b.2.2.2.2.2.1]
        · left
          refine ⟨_, ?_, way_bd hA.1 hA.2.1 b (y + 1) (by omega), ?_⟩
          · apply Classical.byContradiction
            intro no
            have h0 := way_out b (y + 1) (by omega) (by omega)
            have : pth A (rt A (A 12 r) lv) (xM A (rt A (A 12 r) lv) (A 11 r)) (frs A (rt A (A 12 r) lv) (xM A (rt A (A 12 r) lv) (A 11 r))) (y + 1) = 0 := by omega
            rw [this, hA.2.1.1] at h0; omega
          · rw [e10, c, att_at b w (Nat.le_refl _) (y + 1) (by omega) (by omega), show y + 1 - 1 = y by omega, y3]
      · exact old z
  · rw [e04] at hj
    rw [het 13 j (by omega) (by omega)]
    by_cases d : j = r
    · rw [d, up2_same]; exact h2
    · rw [g3 14 j (by omega) (by omega)]; exact hlw j hj
  · have hup : upn (up2 B 14 r lv) n = upn B n := by unfold upn; rw [e10]
    rw [e10] at n3
    rw [hup, (lq_es g2.s n (upn B n)).1, g2 7 _ (by omega) (by omega)]
    by_cases z : A 10 n = 0
    · rcases hG with ⟨a, b⟩ | ⟨a, w, b, c⟩
      · rw [b] at n3; exact absurd z n3
      · have hex : ∃ y, 1 ≤ y ∧ y ≤ w ∧ pth A (rt A (A 12 r) lv) (xM A (rt A (A 12 r) lv) (A 11 r)) (frs A (rt A (A 12 r) lv) (xM A (rt A (A 12 r) lv) (A 11 r))) y = n := by
          apply Classical.byContradiction
          intro no
          rw [c, att_ne w 10 n (Or.inr fun y a b e => no ⟨y, a, b, e⟩)] at n3
          exact n3 z
        obtain ⟨y, y1, y2, y3⟩ := hex
        obtain ⟨x, hx⟩ : ∃ x, y = x + 1 := ⟨y - 1, by omega⟩
        subst hx
        have hb := att_at b w (Nat.le_refl _) (x + 1) (by omega) y2
        rw [y3, show x + 1 - 1 = x by omega, ← c] at hb
        have hw9 := b.2.2.2.2.2.2.2.2 x (by omega)
        have hsp := onw_sp hw9.1
        have hstep := b.2.2.1 x
        rw [← hstep, y3] at hsp
        have hl9 := hw9.2.2.2.2.1
        rw [y3] at hl9
        have hrt := (rt_le hA.1 q2 lv (Nat.le_trans h2 q4)).2
        have hupn : upn B n = pth A (rt A (A 12 r) lv) (xM A (rt A (A 12 r) lv) (A 11 r)) (frs A (rt A (A 12 r) lv) (xM A (rt A (A 12 r) lv) (A 11 r))) x := by unfold upn; omega
        rw [hupn, lnk_e hA.1 hl9]
        have := hsp.2.2.2.2.1
        omega
    · have hu : upn B n = upn A n := by unfold upn; rw [s3 n z]
      rw [hu]; exact hcp n n1 n2 z
theorem Jo_good {A : Ab} {r : Nat} (h : WFg A) (hr : r < A 0 4) : ∀ k B z, k ≤ A 13 r → Jo A r k B z → WFg B ∧ Et A B ∧ ∀ j, j ≠ r → B 14 j = A 14 j := by
  intro k
  induction k with
  | zero => intro B z _ hJ; rw [hJ.1]; exact ⟨h, Et.rf, fun _ _ => rfl⟩
  | succ k ih =>
    intro B z hk hJ
    rcases hJ with ⟨C, a1, a2, a3, a4⟩ | ⟨a1, a2⟩
    · obtain ⟨g1, g2⟩ := Gr_good h hr (by omega) hk a1
      rw [a3]
      refine ⟨g1, g2, fun j hj => ?_⟩
      rw [up2_ne (Or.inr hj)]
      exact (Gr_sp h.1.1 h.1.2.1 a1 (h.2.1.2.1 r hr).1).1 14 j (by omega)
    · exact ih B z (by omega) a2
theorem tries_both {A : Ab} {s : Nat → Nat} {R : Nat} {k m : St} (hA : WF A) (hg : Sg A s R) (hR : RM A m) (hK : RK A s R k) {r lv : Nat} (hr : r < R) (hl : lv ≤ A 0 3) : ∃ (m2 k2 : St) (A2 : Ab) (z : Nat), z ≤ 1 ∧ M_tries m (nI (s r)) (nI lv) = some (nI z, m2) ∧ Tr_tryLevel k (nI r) (nI lv) = some (nI z, k2) ∧ RM A2 m2 ∧ RK A2 s R k2 ∧ Fw m m2 ∧ FK k k2 ∧ ((z = 0 ∧ A2 = A) ∨ (z = 1 ∧ ∃ B, Gr A (s r) lv B ∧ A2 = up2 B 14 (s r) lv)) := by
  obtain ⟨hf, hx⟩ := hg.2.2.2.2 r hr
  rcases M_tries_e hA hR (k := lv) (hg.2.1 r hr) hx hf hl with ⟨B, b1', b2', m2, b3, b4, b5⟩ | ⟨b1', m2, b3, b4, b5⟩ <;> rcases Tr_tryLevel_e hA hg hK hr hl with ⟨C, c1, c2, k2, c3, c4, c5⟩ | ⟨c1, k2, c3, c4, c5⟩
  · rw [Gr_uniq c1 b1'] at c5
    exact ⟨m2, k2, _, 1, by omega, b3, c3, b5, c5, b4, c4, Or.inr ⟨rfl, B, b1', rfl⟩⟩
  · exact absurd b2' (c1 B b1')
  · exact absurd c2 (b1' C c1)
  · exact ⟨m2, k2, A, 0, by omega, b3, c3, b5, c5, b4, c4, Or.inl ⟨rfl, rfl⟩⟩
theorem up2_id {A : Ab} {c i : Nat} : up2 A c i (A c i) = A := ab_ext fun a j => by
  by_cases d : a = c ∧ j = i
  · rw [d.1, d.2, up2_same]
  · rw [up2_ne (by omega)]
theorem joins_both {A : Ab} {s : Nat → Nat} {R : Nat} {k m : St} (hA : WF A) (hg : Sg A s R) (hR : RM A m) (hK : RK A s R k) {r : Nat} (hr : r < R) (h0 : A 14 (s r) = 0) (hw : A 13 (s r) ≤ A 0 3) : ∃ (m2 k2 : St) (B : Ab) (z : Nat), M_joins m (nI (s r)) = some m2 ∧ Tr_join k (nI r) = some (nI z, k2) ∧ Jo A (s r) (A 13 (s r)) B z ∧ RM B m2 ∧ RK B s R k2 ∧ Fw m m2 ∧ FK k k2 := by
  obtain ⟨hf, hx⟩ := hg.2.2.2.2 r hr
  obtain ⟨m2, B, z, a1, a2, a3, a4⟩ := M_joins_e hA hR (hg.2.1 r hr) hx hf hw
  obtain ⟨k2, C, y, b1', b2', b3, b4⟩ := Tr_join_e hA hg hK hr hw
  have e : up2 A 14 (s r) 0 = A := by
    have := up2_id (A := A) (c := 14) (i := s r)
    rw [h0] at this; exact this
  rw [e] at a2
  obtain ⟨u1, u2⟩ := Jo_uniq _ _ _ _ _ b2' a2
  rw [u1] at b3
  rw [u2] at b1'
  exact ⟨m2, k2, B, z, a1, b1', a2, a3, b3, a4, b4⟩
theorem sm_cut {g : Nat → Nat} {a : Nat} : ∀ b, a ≤ b → (∀ i, a ≤ i → i < b → g i = 0) → sm g b = sm g a := by
  intro b
  induction b with
  | zero => intro h _; rw [show a = 0 by omega]
  | succ b ih =>
    intro h h2
    by_cases e : a = b + 1
    · rw [e]
    · rw [sm, h2 b (by omega) (by omega), ih (by omega) (fun i a b => h2 i a (by omega))]; omega
theorem sm_q {A : Ab} (hq : WFq A) : sm (A 14) 21 = sm (A 14) (A 0 4) := by
  have := hq.1
  exact sm_cut 21 (by omega) (fun i a b => hq.2.2 i b a)
theorem sm_100 {A : Ab} (hA : WF A) (hq : WFq A) : sm (A 14) 21 ≤ 100 := by
  have h4 := hq.1
  rw [sm_q hq]
  have := sm_le (g := A 14) (b := 5) (A 0 4) (fun j hj => hA.l14 j (by omega))
  omega
/-- one pass of raising -/
theorem raise_pass (kM : Int32 → Int32 → St → Option (Int32 × St)) (kK : Int32 → Int32 → Int32 → St → Option (Int32 × St)) (v2 v3 : Int32) : ∀ (fu r z fl : Nat) (A : Ab) (m k : St), WFg A → RM A m → RK A sI (A 0 4) k → r ≤ A 0 4 → A 0 4 < r + fu → ∃ (m2 k2 : St) (B : Ab) (y : Nat), M_raises_L12 kM fu (nI z) (nI fl) (nI r) m = kM (nI (z + y)) (nI (if y = 0 then fl else 1)) m2 ∧ Tr_raiseAll_L15 kK fu (nI z) v2 v3 (nI r) k = kK (nI (z + y)) v2 v3 k2 ∧ RM B m2 ∧ RK B sI (A 0 4) k2 ∧ Fw m m2 ∧ FK k k2 ∧ WFg B ∧ Et A B ∧ sm (B 14) 21 = sm (A 14) 21 + y ∧ (y = 0 → B = A) := by
  intro fu
  induction fu with
  | zero => intro r z fl A m k _ _ _ h1 h2; omega
  | succ fu ih =>
    intro r z fl A m k hG hR hK h1 h2
    obtain ⟨hA, hq, ht, hlw⟩ := hG
    have hN := hA.1.1
    have h4 := hq.1
    rw [M_raises_L12, Tr_raiseAll_L15]; unfold M_raises_B12 Tr_raiseAll_B15
    rw [rd_at 96 li96 (by omega) (by omega), b1_some, hR.rcv, hK.rcv]
    simp (disch := omega) only [b1_some, b2_some, lt_e, rd_n, wr_n, nI_add, pk_mul, nI_leI, nI_ltI, nI_eq, nI_1]
    by_cases e : r < A 0 4
    · have hw := hlw.1 r e
      obtain ⟨q1, q2, q3, q4, q5⟩ := hq.2.1 r e
      rw [if_neg (by omega), if_neg (by omega)]
      rw [show M_of m (nI r) 4 = some (nI (A 15 r)) from M_of_e hR (by omega) (w := 4) (by omega), show M_of m (nI r) 3 = some (nI (A 14 r)) from M_of_e hR (by omega) (w := 3) (by omega), show M_of m (nI r) 2 = some (nI (A 13 r)) from M_of_e hR (by omega) (w := 2) (by omega)]
      have f1 : gt k 24 r = nI (A 15 r) := hK.lf e
      have f2 : gt k 22 r = nI (A 13 r) := hK.wa e
      have f3 : gt k 23 r = nI (A 14 r) := hK.lv e
      rw [li0]
      simp (disch := omega) only [b1_some, b2_some, lt_e, rd_n, wr_n, nI_add, pk_mul, nI_leI, nI_ltI, nI_eq, nI_1, f1, f2, f3]
      have skip : ∀ (m' k' : St), RM A m' → RK A sI (A 0 4) k' → Fw m m' → FK k k' → ∃ (m2 k2 : St) (B : Ab) (y : Nat), M_raises_L12 kM fu (nI z) (nI fl) (nI (r + 1)) m' = kM (nI (z + y)) (nI (if y = 0 then fl else 1)) m2 ∧ Tr_raiseAll_L15 kK fu (nI z) v2 v3 (nI (r + 1)) k' = kK (nI (z + y)) v2 v3 k2 ∧ RM B m2 ∧ RK B sI (A 0 4) k2 ∧ Fw m m2 ∧ FK k k2 ∧ WFg B ∧ Et A B ∧ sm (B 14) 21 = sm (A 14) 21 + y ∧ (y = 0 → B = A) := fun m' k' hR' hK' w1 w2 => by
        obtain ⟨m2, k2, B, y, c1, c2, c3, c4, c5, c6, c7⟩ := ih (r + 1) z fl A m' k' ⟨hA, hq, ht, hlw⟩ hR' hK' (by omega) (by omega)
        exact ⟨m2, k2, B, y, c1, c2, c3, c4, w1.tr c5, w2.tr c6, c7⟩
      by_cases c1 : A 15 r = 0
      · rw [if_pos c1, if_pos c1]
        by_cases c2 : A 13 r ≤ A 14 r
        · rw [if_pos c2, if_pos (by omega)]
          exact skip m k hR hK Fw.rf FK.rf
        · rw [if_neg c2, if_neg (by omega)]
          obtain ⟨m2, k2, A2, y, y1, y2, y3, y4, y5, y6, y7, y8⟩ := tries_both hA (Sg_sI hq) hR hK (r := r) (lv := A 14 r + 1) e (by omega)
          have y2 : M_tries m (nI r) (nI (A 14 r + 1)) = some (nI y, m2) := y2
          rw [y2, y3, b2_some, b2_some]
          rcases y8 with ⟨z1, z2⟩ | ⟨z1, C, z2, z3⟩
          · subst z1 z2
            rw [if_pos rfl, if_pos rfl]
            exact skip m2 k2 y4 y5 y6 y7
          · subst z1
            have z2 : Gr A r (A 14 r + 1) C := z2
            have z3 : A2 = up2 C 14 r (A 14 r + 1) := z3
            obtain ⟨g1, g2⟩ := Gr_good ⟨hA, hq, ht, hlw⟩ e (by omega) (by omega) z2
            rw [← z3] at g1 g2
            have e4 : A2 0 4 = A 0 4 := g2 0 4 (by omega) (by omega)
            rw [if_neg (by decide), if_neg (by decide)]
            obtain ⟨m3, k3, B, w, w1, w2, w3, w4, w5, w6, w7, w8, w9, _⟩ := ih (r + 1) (z + 1) 1 A2 m2 k2 g1 y4 (by rw [e4]; exact y5) (by omega) (by omega)
            have hsm := sm_low (g := A2 14) (g2 := A 14) (r := r) (fun j hj => by
              rw [z3, up2_ne (Or.inr hj), (Gr_sp hA.1 hA.2.1 z2 q1).1 14 j (by omega)]) (by rw [z3, up2_same]) 21
            rw [if_pos (by omega)] at hsm
            refine ⟨m3, k3, B, w + 1, ?_, ?_, w3, by rw [← e4]; exact w4, y6.tr w5, y7.tr w6, w7, g2.tr w8, by omega, fun q => by omega⟩
            · rw [show z + (w + 1) = z + 1 + w by omega, if_neg (by omega)]
              rw [show (if w = 0 then 1 else 1) = 1 by split <;> rfl] at w1
              exact w1
            · rw [show z + (w + 1) = z + 1 + w by omega]; exact w2
      · rw [if_neg c1, if_neg c1]
        exact skip m k hR hK Fw.rf FK.rf
    · rw [if_pos (by omega), if_pos (by omega)]
      exact ⟨m, k, A, 0, rfl, rfl, hR, hK, Fw.rf, FK.rf, ⟨hA, hq, ht, hlw⟩, Et.rf, rfl, fun _ => rfl⟩
theorem raise_all : ∀ (fu z ps : Nat) (A : Ab) (m k : St), WFg A → RM A m → RK A sI (A 0 4) k → z ≤ sm (A 14) 21 → ps ≤ sm (A 14) 21 → 107 ≤ ps + fu → ∃ (m2 k2 : St) (B : Ab) (y : Nat), M_raises_L4 fu (nI z) 1 m = some (nI (z + y), m2) ∧ Tr_raiseAll_L4 fu (nI z) (nI ps) k = some (nI (z + y), k2) ∧ RM B m2 ∧ RK B sI (A 0 4) k2 ∧ Fw m m2 ∧ FK k k2 ∧ WFg B ∧ Et A B ∧ sm (B 14) 21 = sm (A 14) 21 + y ∧ (y = 0 → B = A) := by
  intro fu
  induction fu with
  | zero => intro z ps A m k hG _ _ _ h1 h2; have := sm_100 hG.1 hG.2.1; omega
  | succ fu ih =>
    intro z ps A m k hG hR hK hz h1 h2
    have h100 := sm_100 hG.1 hG.2.1
    have h4 := hG.2.1.1
    rw [M_raises_L4, Tr_raiseAll_L4]; unfold M_raises_B4 Tr_raiseAll_B4
    rw [show (105 : Int32) = nI 105 by decide]
    simp (disch := omega) only [b1_some, b2_some, lt_e, rd_n, wr_n, nI_add, pk_mul, nI_leI, nI_ltI, nI_eq, nI_1]
    rw [if_neg (by decide), if_neg (by omega)]
    obtain ⟨m2, k2, B, y, c1, c2, c3, c4, c5, c6, c7, c8, c9, c10⟩ := raise_pass (fun y13 y14 q15 => M_raises_L4 fu y13 y14 q15) (fun y12 y13 y14 q15 => if y12 = y14 then some (y12, q15) else Tr_raiseAll_L4 fu y12 (y13 + 1) q15) (nI ps) (nI z) FU 0 z 0 A m k hG hR hK (by omega) (by rw [FU_e]; omega)
    have hB100 := sm_100 c7.1 c7.2.1
    rw [show nI 0 = 0 from rfl] at c1 c2
    rw [c1, c2]
    have e4 : B 0 4 = A 0 4 := c8 0 4 (by omega) (by omega)
    simp (disch := omega) only [b1_some, b2_some, lt_e, rd_n, wr_n, nI_add, pk_mul, nI_leI, nI_ltI, nI_eq, nI_1]
    by_cases e : y = 0
    · subst e
      rw [if_pos rfl, if_pos (show z + 0 = z by omega)]
      cases fu with
      | zero => omega
      | succ fu =>
        rw [M_raises_L4]; unfold M_raises_B4
        rw [if_pos nI_0]
        exact ⟨m2, k2, B, 0, rfl, rfl, c3, c4, c5, c6, c7, c8, c9, c10⟩
    · rw [if_neg e, if_neg (by omega)]
      obtain ⟨m3, k3, C, w, d1, d2, d3, d4, d5, d6, d7, d8, d9, _⟩ := ih (z + y) (ps + 1) B m2 k2 c7 c3 (by rw [e4]; exact c4) (by omega) (by omega) (by omega)
      refine ⟨m3, k3, C, y + w, by rw [← Nat.add_assoc]; exact d1, by rw [← Nat.add_assoc]; exact d2, d3, by rw [← e4]; exact d4, c5.tr d5, c6.tr d6, d7, c8.tr d8, by omega, fun q => by omega⟩
theorem raises_both {A : Ab} {m k : St} (hG : WFg A) (hR : RM A m) (hK : RK A sI (A 0 4) k) : ∃ (m2 k2 : St) (B : Ab) (y : Nat), M_raises m = some (nI y, m2) ∧ Tr_raiseAll k = some (nI y, k2) ∧ RM B m2 ∧ RK B sI (A 0 4) k2 ∧ Fw m m2 ∧ FK k k2 ∧ WFg B ∧ Et A B ∧ sm (B 14) 21 = sm (A 14) 21 + y ∧ y ≤ 100 ∧ (y = 0 → B = A) := by
  obtain ⟨m2, k2, B, y, c1, c2, c3, c4, c5, c6, c7, c8, c9, c10⟩ := raise_all FU 0 0 A m k hG hR hK (by omega) (by omega) (by rw [FU_e]; omega)
  have := sm_100 c7.1 c7.2.1
  rw [Nat.zero_add] at c1 c2
  exact ⟨m2, k2, B, y, c1, c2, c3, c4, c5, c6, c7, c8, c9, by omega, c10⟩
