/-! ===== PHASE B: closing a link, on both sides ===== -/
theorem pIe {x b : Nat} (hx : x < 2 ^ 30) (hb : b < 2 ^ 30) : pI x = nI b ↔ x = b + 2 := by
  unfold pI
  split
  · exact ⟨fun z => absurd z.symm (nI_neg1 (by omega)), fun z => by omega⟩
  · split
    · exact ⟨fun z => absurd z.symm (nI_neg2 (by omega)), fun z => by omega⟩
    · rw [nI_eq (by omega) (by omega)]; omega
theorem M_lowerEnd_e {A : Ab} {m : St} (hA : WF A) (hR : RM A m) {l : Nat} (hl : l < A 0 1) : (∃ n, inT A n ∧ n ≠ 0 ∧ lnk A n (upn A n) = l ∧ M_lowerEnd m (nI l) = some (nI n)) ∨ ((∀ n, inT A n → n ≠ 0 → lnk A n (upn A n) ≠ l) ∧ M_lowerEnd m (nI l) = some (-2)) := by
  have hN := hA.1.1
  have hd := hA.1.2.1 l hl
  have hpb := par_bd hA.1 hA.2.1
  have ha16 : A 1 l < 16 := by omega
  have hb16 : A 2 l < 16 := by omega
  unfold M_lowerEnd
  rw [M_end0 hA.1 hR hl, b1_some, M_end1 hA.1 hR hl, b1_some, M_isIn_e hpb hR ha16, b1_some]
  have J : A 10 (A 1 l) ≠ A 2 l + 2 → (∃ n, inT A n ∧ n ≠ 0 ∧ lnk A n (upn A n) = l ∧ M_lowerEnd_J35 (nI (A 1 l)) (nI (A 2 l)) m = some (nI n)) ∨ ((∀ n, inT A n → n ≠ 0 → lnk A n (upn A n) ≠ l) ∧ M_lowerEnd_J35 (nI (A 1 l)) (nI (A 2 l)) m = some (-2)) := fun c1 => by
    unfold M_lowerEnd_J35
    rw [M_isIn_e hpb hR hb16, b1_some]
    by_cases c : A 10 (A 2 l) = 0
    · rw [if_pos c, if_pos rfl]
      exact Or.inr ⟨low_no hA hl c1 (by omega), rfl⟩
    · rw [if_neg c, if_neg (by decide), M_up_e hR hb16, b1_some]
      by_cases c2 : A 10 (A 2 l) = A 1 l + 2
      · obtain ⟨u1, u2, u3⟩ := up_of hA hb16 c2
        rw [if_pos ((pIe (hpb _ hb16) (by omega)).mpr c2)]
        exact Or.inl ⟨A 2 l, u1, u2, by rw [u3]; exact lnk_e hA.1 ⟨hl, Or.inr ⟨rfl, rfl⟩⟩, rfl⟩
      · rw [if_neg (fun z => c2 ((pIe (hpb _ hb16) (by omega)).mp z))]
        exact Or.inr ⟨low_no hA hl c1 c2, rfl⟩
  by_cases c : A 10 (A 1 l) = 0
  · rw [if_pos c, if_pos rfl]; exact J (by omega)
  · rw [if_neg c, if_neg (by decide), M_up_e hR ha16, b1_some]
    by_cases c1 : A 10 (A 1 l) = A 2 l + 2
    · obtain ⟨u1, u2, u3⟩ := up_of hA ha16 c1
      rw [if_pos ((pIe (hpb _ ha16) (by omega)).mpr c1)]
      exact Or.inl ⟨A 1 l, u1, u2, by rw [u3]; exact lnk_e hA.1 ⟨hl, Or.inl ⟨rfl, rfl⟩⟩, rfl⟩
    · rw [if_neg (fun z => c1 ((pIe (hpb _ ha16) (by omega)).mp z))]
      exact J c1
theorem bw_iff {A : Ab} (hA : WF A) {t : Nat} : ∀ n, inT A n → ((bw A t n = 1 ↔ Pth A n t) ∧ bw A t n ≤ 1) := by
  refine up_ind hA.1 hA.2.1 ?_ (fun n hn h0 hu ih => ?_)
  · rw [Pth_0, show bw A t 0 = if 0 = t then 1 else 0 from rfl]
    by_cases c : 0 = t
    · rw [if_pos c]; exact ⟨⟨fun _ => c.symm, fun _ => rfl⟩, by omega⟩
    · rw [if_neg c]; exact ⟨⟨fun z => by omega, fun z => absurd z.symm c⟩, by omega⟩
  · have e : bw A t n = if n = t then 1 else bw A t (upn A n) := wk_up hA.1 hA.2.1 hn h0
    rw [Pth_up hA.1 hA.2.1 hn h0, e]
    by_cases c : n = t
    · rw [if_pos c]; exact ⟨⟨fun _ => Or.inl c.symm, fun _ => rfl⟩, by omega⟩
    · rw [if_neg c]
      refine ⟨⟨fun z => Or.inr (ih.1.mp z), fun z => ih.1.mpr (z.elim (fun q => absurd q.symm c) id)⟩, ih.2⟩
/-- who falls, whose levels fall -/
def fl (A : Ab) (t n : Nat) : Nat := if A 10 n ≠ 0 ∧ bw A t n = 1 then 1 else 0
def ct (A : Ab) (t r : Nat) : Nat := if 0 < A 14 r ∧ fl A t (A 11 r) = 1 then 1 else 0
def cutR (A : Ab) (c : Nat → Nat) (r : Nat) : Ab := fun a j => if a = 14 ∧ j < r ∧ c j = 1 then 0 else A a j
theorem cutR_ne {A : Ab} {c : Nat → Nat} {r a j : Nat} (h : a ≠ 14) : cutR A c r a j = A a j := if_neg (fun z => h z.1)
theorem cutR_0 {A : Ab} {c : Nat → Nat} : cutR A c 0 = A := ab_ext fun a j => if_neg (fun z => by omega)
theorem cutR_yes {A : Ab} {c : Nat → Nat} {r : Nat} (h : c r = 1) : cutR A c (r + 1) = up2 (cutR A c r) 14 r 0 := ab_ext fun a j => by
  by_cases d : a = 14 ∧ j = r
  · rw [d.1, d.2, up2_same]; exact if_pos ⟨rfl, by omega, h⟩
  · rw [up2_ne (by omega)]
    unfold cutR
    by_cases q : a = 14 ∧ j < r ∧ c j = 1
    · rw [if_pos q, if_pos ⟨q.1, by omega, q.2.2⟩]
    · rw [if_neg q, if_neg (fun z => q ⟨z.1, by omega, z.2.2⟩)]
theorem cutR_no {A : Ab} {c : Nat → Nat} {r : Nat} (h : c r ≠ 1) : cutR A c (r + 1) = cutR A c r := ab_ext fun a j => by
  unfold cutR
  by_cases q : a = 14 ∧ j < r ∧ c j = 1
  · rw [if_pos q, if_pos ⟨q.1, by omega, q.2.2⟩]
  · rw [if_neg q, if_neg (fun z => q ⟨z.1, by
      by_cases e : j = r
      · rw [e] at z; exact absurd z.2.2 h
      · omega, z.2.2⟩)]
theorem cutR_at {A : Ab} {c : Nat → Nat} {r : Nat} : cutR A c r 14 r = A 14 r := if_neg (fun z => by omega)
theorem cutR_wf {A : Ab} (hA : WF A) {c : Nat → Nat} {r : Nat} : WF (cutR A c r) := by
  have e : ∀ a j, a ≠ 14 → cutR A c r a j = A a j := fun a j h => cutR_ne h
  have hec : Ec A (cutR A c r) := fun a j h _ => e a j (by omega)
  refine ⟨WFs_es hec.s hA.1, ?_, WFc_ec hec hA.2.2.1, fun q hq hl => ?_⟩
  · obtain ⟨t1, t2, t3, g, t4⟩ := hA.2.1
    have e10 : ∀ j, cutR A c r 10 j = A 10 j := fun j => e 10 j (by omega)
    refine ⟨by rw [e10]; exact t1, fun n hn h1 => by rw [e10]; exact t2 n hn h1, fun n hn h2 => ?_, g, fun n hn h2 => ?_⟩
    · rw [e10] at h2 ⊢
      obtain ⟨x1, x2, x3, l, x4⟩ := t3 n hn h2
      rw [e10, hec.s 0 0 (by omega) (by omega)]
      exact ⟨x1, x2, x3, l, (Lk_es hec.s).mpr x4⟩
    · rw [e10] at h2 ⊢; exact t4 n hn h2
  · have h14 : cutR A c r 14 q = A 14 q := by
      unfold cutR at hl ⊢
      by_cases z : (14 : Nat) = 14 ∧ q < r ∧ c q = 1
      · rw [if_pos z] at hl; omega
      · rw [if_neg z]
    rw [h14] at hl ⊢
    rw [e 11 q (by omega), e 12 q (by omega), e 10 _ (by omega), e 0 0 (by omega), e 0 2 (by omega), e 0 3 (by omega)]
    exact hA.2.2.2 q hq hl
/-- the class: the levels of those who are cut -/
theorem cut30 {A : Ab} (hA : WF A) (hq : WFq A) {c : Nat → Nat} {w : Int32} (hc : ∀ r, r < A 0 4 → (c r = 1 ↔ 0 < A 14 r ∧ bt w (A 11 r) = true)) : ∀ (fu r : Nat) (k : St) (acc : Int32), RK (cutR A c r) sI (A 0 4) k → (∀ x, x < 32 → (bt acc x = true ↔ x < r ∧ c x = 1)) → r ≤ A 0 4 → A 0 4 < r + fu → ∃ (k2 : St) (z : Int32), Tr_cutAt_L30 fu w acc (nI r) k = some (z, k2) ∧ RK (cutR A c (A 0 4)) sI (A 0 4) k2 ∧ FK k k2 ∧ ∀ x, x < 32 → (bt z x = true ↔ x < A 0 4 ∧ c x = 1) := by
  have hN := hA.1.1
  have h4 := hq.1
  intro fu
  induction fu with
  | zero => intro r k acc _ _ h1 h2; omega
  | succ fu ih =>
    intro r k acc hK ha h1 h2
    rw [Tr_cutAt_L30]; unfold Tr_cutAt_B30
    rw [hK.rcv, li0]
    simp (disch := omega) only [b1_some, b2_some, lt_e, rd_n, wr_n, nI_add, pk_mul, nI_leI, nI_ltI, nI_eq, nI_1]
    by_cases e : r < A 0 4
    · have f1 : gt k 23 r = nI (A 14 r) := by rw [hK.lv e]; show nI (cutR A c r 14 r) = _; rw [cutR_at]
      have f2 : gt k 20 r = nI (A 11 r) := by rw [hK.nd e]; show nI (cutR A c r 11 r) = _; rw [cutR_ne (by omega)]
      have hx := (hq.2.1 r e).1
      have h14 := hA.l14 r (by omega)
      rw [if_neg (by omega)]
      simp (disch := omega) only [b1_some, b2_some, lt_e, rd_n, wr_n, nI_add, pk_mul, nI_leI, nI_ltI, nI_eq, nI_1, f1, f2]
      have no : c r ≠ 1 → ∃ (k2 : St) (z : Int32), Tr_cutAt_L30 fu w acc (nI (r + 1)) k = some (z, k2) ∧ RK (cutR A c (A 0 4)) sI (A 0 4) k2 ∧ FK k k2 ∧ ∀ x, x < 32 → (bt z x = true ↔ x < A 0 4 ∧ c x = 1) := fun hn => by
        refine ih (r + 1) k acc (by rw [cutR_no hn]; exact hK) (fun x hx => ?_) (by omega) (by omega)
        rw [ha x hx]
        refine ⟨fun z => ⟨by omega, z.2⟩, fun z => ⟨?_, z.2⟩⟩
        by_cases q : x = r
        · rw [q] at z; exact absurd z.2 hn
        · omega
      by_cases c1 : A 14 r = 0
      · rw [if_pos (by omega)]
        exact no (fun z => by have := (hc r e).mp z; omega)
      · rw [if_neg (by omega), bit1 w (by omega)]
        by_cases c2 : bt w (A 11 r) = true
        · have hy : c r = 1 := (hc r e).mpr ⟨by omega, c2⟩
          rw [if_pos c2, if_pos rfl]
          have hF : FK k (st k 23 r (nI 0)) := FK.st (by omega)
          have hg : Sg (cutR A c r) sI (A 0 4) := by
            have hs := Sg_sI hq
            refine ⟨hs.1, hs.2.1, hs.2.2.1, fun r2 a b => hs.2.2.2.1 r2 a ?_, fun r2 a => by rw [cutR_ne (by omega), cutR_ne (by omega), cutR_ne (by omega), cutR_ne (by omega)]; exact hs.2.2.2.2 r2 a⟩
            unfold cutR at b
            by_cases z : (14 : Nat) = 14 ∧ r2 < r ∧ c r2 = 1
            · rw [if_pos z] at b; omega
            · rw [if_neg z] at b; exact b
          obtain ⟨k2, z, z1, z2, z3, z4⟩ := ih (r + 1) (st k 23 r (nI 0)) (acc ||| ((1 : Int32) <<< (nI r &&& 31))) (by rw [cutR_yes hy]; exact hK.sl hg (r := r) (v := 0) e) (fun x hx => by
            rw [b_set acc (by omega) hx, ha x hx]
            constructor
            · rintro (z | z)
              · exact ⟨by omega, z.2⟩
              · rw [z]; exact ⟨by omega, hy⟩
            · rintro ⟨z1, z2⟩
              by_cases q : x = r
              · exact Or.inr q
              · exact Or.inl ⟨by omega, z2⟩) (by omega) (by omega)
          exact ⟨k2, z, z1, z2, hF.tr z3, z4⟩
        · rw [if_neg c2, if_neg (by decide)]
          exact no (fun z => c2 ((hc r e).mp z).2)
    · rw [if_pos (by omega)]
      have : r = A 0 4 := by omega
      subst this
      exact ⟨k, acc, rfl, hK, FK.rf, ha⟩
theorem subtree4 {A : Ab} {s : Nat → Nat} {R : Nat} {k : St} (hA : WF A) (hK : RK A s R k) {t : Nat} (ht : t < 16) : ∀ (fu n : Nat) (acc : Int32), (∀ x, x < 32 → (bt acc x = true ↔ x < n ∧ A 10 x ≠ 0 ∧ Pth A x t)) → n ≤ A 0 0 → A 0 0 < n + fu → ∃ w, Sp_subtree_L4 k fu (nI t) acc (nI n) = some w ∧ ∀ x, x < 32 → (bt w x = true ↔ x < A 0 0 ∧ A 10 x ≠ 0 ∧ Pth A x t) := by
  have hN := hA.1.1
  intro fu
  induction fu with
  | zero => intro n acc _ h1 h2; omega
  | succ fu ih =>
    intro n acc ha h1 h2
    rw [Sp_subtree_L4]; unfold Sp_subtree_B4
    rw [hK.n0]
    simp (disch := omega) only [b1_some, b2_some, lt_e, rd_n, wr_n, nI_add, pk_mul, nI_leI, nI_ltI, nI_eq, nI_1]
    by_cases e : n < A 0 0
    · rw [if_neg (by omega)]
      simp (disch := omega) only [b1_some, b2_some, lt_e, rd_n, wr_n, nI_add, pk_mul, nI_leI, nI_ltI, nI_eq, nI_1, hK.tin]
      have no : ¬ (A 10 n ≠ 0 ∧ Pth A n t) → ∃ w, Sp_subtree_L4 k fu (nI t) acc (nI (n + 1)) = some w ∧ ∀ x, x < 32 → (bt w x = true ↔ x < A 0 0 ∧ A 10 x ≠ 0 ∧ Pth A x t) := fun hn => by
        refine ih (n + 1) acc (fun x hx => ?_) (by omega) (by omega)
        rw [ha x hx]
        refine ⟨fun z => ⟨by omega, z.2⟩, fun z => ⟨?_, z.2⟩⟩
        by_cases q : x = n
        · rw [q] at z; exact absurd z.2 hn
        · omega
      by_cases c : A 10 n = 0
      · rw [if_pos c, if_pos rfl]; exact no (fun z => z.1 c)
      · rw [if_neg c, if_neg (by decide)]
        obtain ⟨w, a1, a2⟩ := Sp_nodesUp_e hA hK (n := n) ⟨by omega, c⟩
        rw [a1, b1_some, bit1 w (by omega)]
        by_cases d : bt w t = true
        · have hp := (a2 t (by omega)).mp d
          rw [if_pos d, if_pos rfl]
          refine ih (n + 1) _ (fun x hx => ?_) (by omega) (by omega)
          rw [b_set acc (by omega) hx, ha x hx]
          constructor
          · rintro (z | z)
            · exact ⟨by omega, z.2⟩
            · rw [z]; exact ⟨by omega, c, hp⟩
          · rintro ⟨z1, z2⟩
            by_cases q : x = n
            · exact Or.inr q
            · exact Or.inl ⟨by omega, z2⟩
        · rw [if_neg d, if_neg (by decide)]
          exact no (fun z => d ((a2 t (by omega)).mpr z.2))
    · rw [if_pos (by omega)]
      have : n = A 0 0 := by omega
      subst this
      exact ⟨acc, rfl, ha⟩
theorem Sp_subtree_e {A : Ab} {s : Nat → Nat} {R : Nat} {k : St} (hA : WF A) (hK : RK A s R k) {t : Nat} (ht : t < 16) : ∃ w, Sp_subtree k (nI t) = some w ∧ ∀ x, x < 32 → (bt w x = true ↔ x < A 0 0 ∧ A 10 x ≠ 0 ∧ Pth A x t) := by
  have hN := hA.1.1
  exact subtree4 hA hK ht FU 0 0 (fun x _ => by rw [b_0]; exact ⟨fun z => absurd z (by decide), fun z => by omega⟩) (by omega) (by rw [FU_e]; omega)
/-- a part of a part -/
theorem Sub_chn {A C : Ab} (hA : WF A) (h : Sub A C) {r : Nat} (hr : r < 21) (hl : 0 < A 14 r) : dep C (A 11 r) = dep A (A 11 r) ∧ ∀ i, i ≤ dep A (A 11 r) → chn C i (A 11 r) = chn A i (A 11 r) := by
  have hx := WFr.in hA.1 hA.2.2.2 hr hl
  obtain ⟨d1, d2, d3⟩ := dep_le hA.1 hA.2.1 hx
  have hc : ∀ i, i ≤ dep A (A 11 r) → chn C i (A 11 r) = chn A i (A 11 r) := by
    intro i
    induction i with
    | zero => intro _; rfl
    | succ i ih =>
      intro hi
      rw [chn_succ, chn_succ, ih (by omega)]
      have hin := chn_inT hA.1 hA.2.1 hx (i := i) (by omega)
      unfold upn
      rw [h.2.2.2 _ hin.1 (Or.inr ⟨r, hr, hl, i, by omega, rfl⟩)]
  refine ⟨dpF_e 16 _ _ (by omega) (by rw [hc _ (Nat.le_refl _)]; exact d2) (fun i hi => by rw [hc i (by omega)]; exact d3 i hi), hc⟩
theorem Sub_Req {A C : Ab} (hA : WF A) (h : Sub A C) (n : Nat) : Req A n ↔ Req C n := by
  have e11 : C 11 = A 11 := h.1 11 (by omega)
  have e14 : C 14 = A 14 := h.1 14 (by omega)
  unfold Req
  rw [e11, e14]
  constructor
  · rintro (z | ⟨r, r1, r2, i, i1, i2⟩)
    · exact Or.inl z
    · obtain ⟨s1, s2⟩ := Sub_chn hA h r1 r2
      exact Or.inr ⟨r, r1, r2, i, by omega, by rw [s2 i i1]; exact i2⟩
  · rintro (z | ⟨r, r1, r2, i, i1, i2⟩)
    · exact Or.inl z
    · obtain ⟨s1, s2⟩ := Sub_chn hA h r1 r2
      exact Or.inr ⟨r, r1, r2, i, by omega, by rw [← s2 i (by omega)]; exact i2⟩
theorem Sub_Prd {A C B : Ab} (hA : WF A) (h : Sub A C) (h2 : Prd C B) : Prd A B := by
  refine ⟨⟨fun a ha => (h2.1.1 a ha).trans (h.1 a ha), fun j => ?_, h2.1.2.2.1, fun n hn hr => ?_⟩, fun n hn hb => (Sub_Req hA h n).mpr (h2.2 n hn hb)⟩
  · rcases h2.1.2.1 j with z | z
    · rcases h.2.1 j with y | y
      · exact Or.inl (z.trans y)
      · exact Or.inr (z.trans y)
    · exact Or.inr z
  · rw [h2.1.2.2.2 n hn ((Sub_Req hA h n).mp hr), h.2.2.2 n hn hr]
/-- the tree without all that lies below t -/
def cutT (A : Ab) (t x : Nat) : Ab := fun a j => if a = 10 ∧ j < x ∧ fl A t j = 1 then 0 else A a j
theorem cutT_ne {A : Ab} {t x a j : Nat} (h : a ≠ 10) : cutT A t x a j = A a j := if_neg (fun z => h z.1)
theorem fl_iff {A : Ab} (hA : WF A) {t n : Nat} (hn : n < 16) : fl A t n = 1 ↔ A 10 n ≠ 0 ∧ Pth A n t := by
  unfold fl
  by_cases c : A 10 n = 0
  · rw [if_neg (fun z => z.1 c)]; exact ⟨fun z => by omega, fun z => absurd c z.1⟩
  · have := (bw_iff hA (t := t) n ⟨hn, c⟩).1
    by_cases d : bw A t n = 1
    · rw [if_pos ⟨c, d⟩]; exact ⟨fun _ => ⟨c, this.mp d⟩, fun _ => rfl⟩
    · rw [if_neg (fun z => d z.2)]; exact ⟨fun z => by omega, fun z => absurd (this.mpr z.2) d⟩
theorem Pth_tr {A : Ab} (hA : WF A) {y t : Nat} : ∀ x, inT A x → Pth A x y → Pth A y t → Pth A x t := by
  refine up_ind hA.1 hA.2.1 (fun h1 h2 => ?_) (fun n hn h0 hu ih h1 h2 => ?_)
  · rw [Pth_0] at h1; rw [h1] at h2; exact h2
  · rw [Pth_up hA.1 hA.2.1 hn h0] at h1 ⊢
    rcases h1 with z | z
    · rw [z] at h2
      rw [Pth_up hA.1 hA.2.1 hn h0] at h2
      exact h2
    · exact Or.inr (ih z h2)
/-- the tree that is cut, its levels cut before -/
theorem cut_sub {A : Ab} (hA : WF A) {t : Nat} (ht0 : t ≠ 0) (hct : ∀ r, r < 21 → 0 < A 14 r → fl A t (A 11 r) ≠ 1) : Sub A (cutT A t (A 0 0)) := by
  have hN := hA.1.1
  have e10 : ∀ j, cutT A t (A 0 0) 10 j = if j < A 0 0 ∧ fl A t j = 1 then 0 else A 10 j := fun j => by
    unfold cutT
    by_cases c : j < A 0 0 ∧ fl A t j = 1
    · rw [if_pos ⟨rfl, c⟩, if_pos c]
    · rw [if_neg (fun z => c z.2), if_neg c]
  have hne : ∀ a j, a ≠ 10 → cutT A t (A 0 0) a j = A a j := fun a j h => cutT_ne h
  have hes : Es A (cutT A t (A 0 0)) := fun a j x _ => hne a j (by omega)
  have keep : ∀ j, j < 16 → ¬ (A 10 j ≠ 0 ∧ Pth A j t) → cutT A t (A 0 0) 10 j = A 10 j := fun j hj h => by
    rw [e10, if_neg (fun z => h ((fl_iff hA hj).mp z.2))]
  have gone : ∀ j, j < 16 → cutT A t (A 0 0) 10 j ≠ 0 → A 10 j ≠ 0 ∧ ¬ Pth A j t ∧ cutT A t (A 0 0) 10 j = A 10 j := fun j hj h => by
    rw [e10] at h ⊢
    by_cases c : j < A 0 0 ∧ fl A t j = 1
    · rw [if_pos c] at h; omega
    · rw [if_neg c] at h ⊢
      refine ⟨h, fun z => c ⟨inT_lt hA.1 hA.2.1 ⟨hj, h⟩, (fl_iff hA hj).mpr ⟨h, z⟩⟩, rfl⟩
  have h00 : ¬ Pth A 0 t := fun z => ht0 (Pth_0.mp z)
  refine ⟨fun a ha => funext fun j => hne a j ha, fun j => ?_, ?_, fun n hn hr => ?_⟩
  · rw [e10]; split
    · exact Or.inr rfl
    · exact Or.inl rfl
  · obtain ⟨t1, t2, t3, g, t4⟩ := hA.2.1
    refine ⟨by rw [keep 0 (by omega) (fun z => h00 z.2)]; exact t1, fun n hn h1 => ?_, fun n hn h2 => ?_, g, fun n hn h2 => ?_⟩
    · rw [e10]; split
      · omega
      · exact t2 n hn h1
    · obtain ⟨p1, p2, p3⟩ := gone n hn (by omega)
      rw [p3] at h2 ⊢
      obtain ⟨x1, x2, x3, l, x4⟩ := t3 n hn h2
      rw [hes 0 0 (by omega) (by omega)]
      have n0 : n ≠ 0 := fun z => by rw [z, t1] at h2; omega
      rw [keep (A 10 n - 2) (by omega) (fun z => p2 ((Pth_up hA.1 hA.2.1 ⟨hn, p1⟩ n0).mpr (Or.inr z.2)))]
      exact ⟨x1, x2, x3, l, (Lk_es hes).mpr x4⟩
    · obtain ⟨p1, p2, p3⟩ := gone n hn (by omega)
      rw [p3] at h2 ⊢; exact t4 n hn h2
  · refine keep n hn (fun z => ?_)
    rcases hr with q | ⟨r, r1, r2, r3⟩
    · rw [q] at z; exact h00 z.2
    · have hx := WFr.in hA.1 hA.2.2.2 r1 r2
      exact hct r r1 r2 ((fl_iff hA hx.1).mpr ⟨hx.2, Pth_tr hA _ hx r3 z.2⟩)
