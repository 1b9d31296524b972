/-! ===== PHASE B: lowering, in the class ===== -/
theorem pK_eq {x b : Nat} (hx : x < 2 ^ 30) (hb : b < 2 ^ 30) : pK x = nI b ↔ x = b + 2 := by
  unfold pK
  split
  · exact ⟨fun z => absurd z.symm (nI_neg1 (by omega)), fun z => by omega⟩
  · rw [nI_eq (by omega) (by omega)]; omega
theorem up_of {A : Ab} (hA : WF A) {a b : Nat} (ha : a < 16) (h : A 10 a = b + 2) : inT A a ∧ a ≠ 0 ∧ upn A a = b := by
  refine ⟨⟨ha, by omega⟩, fun e => ?_, by unfold upn; omega⟩
  rw [e, hA.2.1.1] at h; omega
theorem low_no {A : Ab} (hA : WF A) {l : Nat} (hl : l < A 0 1) (h1 : A 10 (A 1 l) ≠ A 2 l + 2) (h2 : A 10 (A 2 l) ≠ A 1 l + 2) : ∀ n, inT A n → n ≠ 0 → lnk A n (upn A n) ≠ l := fun n hn h0 e => by
  obtain ⟨_, _, _, _, q, j, hj⟩ := inT_up hA.1 hA.2.1 hn h0
  have := lnk_e hA.1 hj
  rw [this] at e
  subst e
  rcases hj.2 with ⟨x, y⟩ | ⟨x, y⟩
  · rw [x, y] at h1; exact h1 q
  · rw [x, y] at h2; exact h2 q
theorem Tr_lowerEnd_e {A : Ab} {s : Nat → Nat} {R : Nat} {k : St} (hA : WF A) (hK : RK A s R k) {l : Nat} (hl : l < A 0 1) : (∃ n, inT A n ∧ n ≠ 0 ∧ lnk A n (upn A n) = l ∧ Tr_lowerEnd k (nI l) = some (nI n)) ∨ ((∀ n, inT A n → n ≠ 0 → lnk A n (upn A n) ≠ l) ∧ Tr_lowerEnd k (nI l) = some (-1)) := by
  have hN := hA.1.1
  have hd := hA.1.2.1 l hl
  have hpb := par_bd hA.1 hA.2.1
  have ha16 : A 1 l < 16 := by omega
  have hb16 : A 2 l < 16 := by omega
  unfold Tr_lowerEnd
  simp (disch := omega) only [b1_some, b2_some, lt_e, rd_n, wr_n, nI_add, pk_mul, nI_leI, nI_ltI, nI_eq, nI_1, hK.e1 hl, hK.e2 hl, hK.par ha16, hK.par hb16]
  by_cases c1 : A 10 (A 1 l) = A 2 l + 2
  · obtain ⟨u1, u2, u3⟩ := up_of hA ha16 c1
    rw [if_pos ((pK_eq (hpb _ ha16) (by omega)).mpr c1)]
    exact Or.inl ⟨A 1 l, u1, u2, by rw [u3]; exact lnk_e hA.1 ⟨hl, Or.inl ⟨rfl, rfl⟩⟩, rfl⟩
  · rw [if_neg (fun z => c1 ((pK_eq (hpb _ ha16) (by omega)).mp z))]
    by_cases c2 : A 10 (A 2 l) = A 1 l + 2
    · obtain ⟨u1, u2, u3⟩ := up_of hA hb16 c2
      rw [if_pos ((pK_eq (hpb _ hb16) (by omega)).mpr c2)]
      exact Or.inl ⟨A 2 l, u1, u2, by rw [u3]; exact lnk_e hA.1 ⟨hl, Or.inr ⟨rfl, rfl⟩⟩, rfl⟩
    · rw [if_neg (fun z => c2 ((pK_eq (hpb _ hb16) (by omega)).mp z))]
      exact Or.inr ⟨low_no hA hl c1 c2, rfl⟩
theorem ov_iff {A : Ab} (hA : WF A) {n l : Nat} (hn : inT A n) (h0 : n ≠ 0) (hl : lnk A n (upn A n) = l) : ∀ x, inT A x → (ov A l x = 1 ↔ Pth A x n) := by
  intro x hx
  constructor
  · revert x
    refine up_ind hA.1 hA.2.1 (P := fun x => ov A l x = 1 → Pth A x n) (fun h => ?_) (fun x hx hx0 hu ih h => ?_)
    · rw [ov, wk_0] at h; omega
    · have e : ov A l x = if lnk A x (upn A x) = l then 1 else ov A l (upn A x) := wk_up hA.1 hA.2.1 hx hx0
      rw [e] at h
      rw [Pth_up hA.1 hA.2.1 hx hx0]
      by_cases c : lnk A x (upn A x) = l
      · exact Or.inl (uplink_inj hA.1 hA.2.1 hn hx h0 hx0 (by rw [hl, c]))
      · rw [if_neg c] at h; exact Or.inr (ih h)
  · rintro ⟨i, h1, h2⟩
    exact ov_chn hA.1 hA.2.1 h0 hl i x hx h1 h2
theorem serve19 {A : Ab} {s : Nat → Nat} {R : Nat} {k : St} (hA : WF A) (hK : RK A s R k) {f : Nat} (hf : f < 4) : ∀ n, inT A n → ∀ (fu i : Nat), dep A n + 1 < fu → dep A n + i ≤ 15 → Sp_servingNode_L19 k fu (nI f) (nI n) (nI i) = some (bJ (sv A f n)) := by
  have hs := hA.1
  have ht := hA.2.1
  have hN := hs.1
  have hpl : ∀ n, n < 16 → A 9 (4 * n + f) ≤ 1 := fun n hn => (hA.2.2.1.2 n f hn hf).1
  refine up_ind hs ht (fun fu i hd hi => ?_) (fun n hn h0 hu ih fu i hd hi => ?_)
  · rw [dep_0] at hd hi
    have hp := hpl 0 (by omega)
    have e9 := hK.pl (n := 0) (f := f) (by omega) hf
    cases fu with
    | zero => omega
    | succ fu =>
      rw [Sp_servingNode_L19]; unfold Sp_servingNode_B19
      rw [li16, li4]
      simp (disch := omega) only [b1_some, b2_some, lt_e, rd_n, wr_n, nI_add, pk_mul, nI_leI, nI_ltI, nI_eq, nI_1, e9, hK.par (show 0 < 16 by omega), pK_0 ht]
      rw [if_neg (by omega), if_neg (nI_neg1 (by omega)), sv_0, li0]
      rw [show 4 * 0 + f = f by omega] at hp ⊢
      simp (disch := omega) only [b1_some, b2_some, lt_e, rd_n, wr_n, nI_add, pk_mul, nI_leI, nI_ltI, nI_eq, nI_1]
      by_cases c : A 9 f = 1
      · rw [if_neg (by omega), if_pos c]; rfl
      · rw [if_pos (by omega), if_neg c]
        cases fu with
        | zero => omega
        | succ fu =>
          rw [Sp_servingNode_L19]; unfold Sp_servingNode_B19
          split
          · rfl
          · rw [if_pos rfl]; rfl
  · cases fu with
    | zero => omega
    | succ fu =>
      have hdp := dep_up hs ht hn h0
      have hn16 := hn.1
      have hp := hpl n hn16
      have e9 := hK.pl (n := n) (f := f) hn16 hf
      rw [Sp_servingNode_L19]; unfold Sp_servingNode_B19
      rw [li16, li4]
      simp (disch := omega) only [b1_some, b2_some, lt_e, rd_n, wr_n, nI_add, pk_mul, nI_leI, nI_ltI, nI_eq, nI_1, e9, hK.up hA hn h0]
      rw [if_neg (by omega), if_neg (nI_neg1 (by omega)), sv_up hs ht hn h0, li0]
      simp (disch := omega) only [b1_some, b2_some, lt_e, rd_n, wr_n, nI_add, pk_mul, nI_leI, nI_ltI, nI_eq, nI_1]
      by_cases c : A 9 (4 * n + f) = 1
      · rw [if_neg (by omega), if_pos c]
        rw [show bJ n = nI n from if_neg (by omega)]
      · rw [if_pos (by omega), if_neg c]
        exact ih fu (i + 1) (by omega) (by omega)
theorem Sp_servingNode_e {A : Ab} {s : Nat → Nat} {R : Nat} {k : St} (hA : WF A) (hg : Sg A s R) (hK : RK A s R k) {r : Nat} (hr : r < R) : Sp_servingNode k (nI r) = some (if A 14 (s r) = 0 then -1 else bJ (sv A (A 12 (s r)) (A 11 (s r)))) := by
  have hR21 := hg.1
  have hN := hA.1.1
  have hf := (hg.2.2.2.2 r hr).1
  unfold Sp_servingNode
  rw [Sp_pathStart_e hA hg hK hr]
  simp (disch := omega) only [b1_some, b2_some, lt_e, rd_n, wr_n, nI_add, pk_mul, nI_leI, nI_ltI, nI_eq, nI_1, hK.fm hr]
  by_cases c : A 14 (s r) = 0
  · rw [if_pos c, if_pos c, show FU = 3999 + 1 from rfl, Sp_servingNode_L19]; unfold Sp_servingNode_B19
    rw [if_neg (by decide), if_pos rfl]
  · rw [if_neg c, if_neg c]
    have hin := WFr.in hA.1 hA.2.2.2 (hg.2.1 r hr) (by omega)
    have hd := (dep_le hA.1 hA.2.1 hin).1
    exact serve19 hA hK (by omega) _ hin FU 0 (by rw [FU_e]; omega) (by omega)
theorem sv_nat {A : Ab} (hA : WF A) : ∀ n, inT A n → sv A 0 n = 99 := by
  have h9 : ∀ n, n < 16 → A 9 (4 * n + 0) ≠ 1 := fun n hn e => by
    have := (hA.2.2.1.2 n 0 hn (by omega)).2 e
    omega
  refine up_ind hA.1 hA.2.1 (P := fun n => sv A 0 n = 99) ?_ (fun n hn h0 _ ih => ?_)
  · have := h9 0 (by omega)
    rw [sv_0, if_neg this]
  · rw [sv_up hA.1 hA.2.1 hn h0, if_neg (h9 n hn.1)]; exact ih
theorem Tr_greater_e {A : Ab} {s : Nat → Nat} {R : Nat} {k : St} (hA : WF A) (hg : Sg A s R) (hK : RK A s R k) {y r : Nat} (hy : y = 99 ∨ y < R) (hr : r < R) : Tr_greater k (bJ y) (nI r) = some (bJ (if y = 99 ∨ A 14 (s y) ≤ A 14 (s r) then r else y)) := by
  have hR21 := hg.1
  unfold Tr_greater
  rcases hy with e | e
  · rw [e, show bJ 99 = -1 from rfl, if_pos rfl, if_pos (Or.inl rfl), show bJ r = nI r from if_neg (by omega)]
  · have h1 := hA.l14 (s r) (hg.2.1 r hr)
    have h2 := hA.l14 (s y) (hg.2.1 y e)
    rw [show bJ y = nI y from if_neg (by omega), if_neg (nI_neg1 (by omega))]
    simp (disch := omega) only [b1_some, b2_some, lt_e, rd_n, wr_n, nI_add, pk_mul, nI_leI, nI_ltI, nI_eq, nI_1, hK.lv hr, hK.lv e]
    by_cases c : A 14 (s r) < A 14 (s y)
    · rw [if_pos c, if_neg (by omega), show bJ y = nI y from if_neg (by omega)]
    · rw [if_neg c, if_pos (by omega), show bJ r = nI r from if_neg (by omega)]
/-- the three loops -/
def nxs (A : Ab) (s : Nat → Nat) (p : Nat → Nat) : Nat → Nat := nx (fun r => p (s r)) (fun r => A 14 (s r))
theorem nxs_bd {A : Ab} {s p : Nat → Nat} {R r : Nat} (hR : R ≤ 21) (h : r ≤ R) : nxs A s p r = 99 ∨ nxs A s p r < R := by
  rcases nx_sp (p := fun r => p (s r)) (lv := fun r => A 14 (s r)) r (by omega) with ⟨a, _⟩ | ⟨a, _⟩
  · exact Or.inl a
  · right
    have a : nxs A s p r < r := a
    omega
theorem nxs_yes {A : Ab} {s p : Nat → Nat} {r : Nat} (h : p (s r) = 1) : nxs A s p (r + 1) = if nxs A s p r = 99 ∨ A 14 (s (nxs A s p r)) ≤ A 14 (s r) then r else nxs A s p r := by
  show (if p (s r) = 1 ∧ (nxs A s p r = 99 ∨ A 14 (s (nxs A s p r)) ≤ A 14 (s r)) then r else nxs A s p r) = _
  by_cases c : nxs A s p r = 99 ∨ A 14 (s (nxs A s p r)) ≤ A 14 (s r)
  · rw [if_pos ⟨h, c⟩, if_pos c]
  · rw [if_neg (fun z => c z.2), if_neg c]
theorem nxs_no {A : Ab} {s p : Nat → Nat} {r : Nat} (h : p (s r) ≠ 1) : nxs A s p (r + 1) = nxs A s p r := by
  show (if p (s r) = 1 ∧ (nxs A s p r = 99 ∨ A 14 (s (nxs A s p r)) ≤ A 14 (s r)) then r else nxs A s p r) = _
  rw [if_neg (fun z => h z.1)]
theorem below4 {A : Ab} {s : Nat → Nat} {R : Nat} {k : St} (hA : WF A) (hg : Sg A s R) (hK : RK A s R k) {n l : Nat} (hn : inT A n) (h0 : n ≠ 0) (hl : lnk A n (upn A n) = l) (hl100 : l < 100) : ∀ (fu r : Nat), r ≤ R → R < r + fu → Tr_greatestBelow_L4 k fu (nI n) (bJ (nxs A s (prt A l) r)) (nI r) = some (bJ (nxs A s (prt A l) R)) := by
  have hR21 := hg.1
  have hn16 := hn.1
  intro fu
  induction fu with
  | zero => intro r h1 h2; omega
  | succ fu ih =>
    intro r h1 h2
    rw [Tr_greatestBelow_L4]; unfold Tr_greatestBelow_B4
    rw [hK.rcv]
    simp (disch := omega) only [b1_some, b2_some, lt_e, rd_n, wr_n, nI_add, pk_mul, nI_leI, nI_ltI, nI_eq, nI_1]
    by_cases e : r < R
    · have nx1 := ih (r + 1) (by omega) (by omega)
      obtain ⟨w, a1, a2⟩ := Sp_pathNodes_e hA hg hK e
      rw [if_neg (by omega), if_neg (nI_neg1 (by omega)), a1, b1_some, bit1 w (by omega)]
      have hp : prt A l (s r) = 1 ↔ bt w n = true := by
        rw [a2 n (by omega)]
        unfold prt
        by_cases z : A 14 (s r) = 0
        · rw [if_pos z]; exact ⟨fun q => by omega, fun q => by omega⟩
        · rw [if_neg z, if_pos hl100, ov_iff hA hn h0 hl _ (WFr.in hA.1 hA.2.2.2 (hg.2.1 r e) (by omega))]
          exact ⟨fun q => ⟨by omega, q⟩, fun q => q.2⟩
      by_cases c : bt w n = true
      · rw [if_pos c, if_pos rfl, Tr_greater_e hA hg hK (nxs_bd hR21 (by omega)) e, b1_some, ← nxs_yes (hp.mpr c)]
        exact nx1
      · rw [if_neg c, if_neg (by decide)]
        rw [nxs_no (fun z => c (hp.mp z))] at nx1
        exact nx1
    · rw [if_pos (by omega)]
      have : r = R := by omega
      subst this
      rfl
theorem bJ_eq {x n : Nat} (hx : x < 16 ∨ x = 99) (hn : n < 99) : bJ x = nI n ↔ x = n := by
  unfold bJ
  split
  · rename_i c; exact ⟨fun z => absurd z.symm (nI_neg1 (by omega)), fun z => by omega⟩
  · exact nI_eq (by omega) (by omega)
theorem bJ_no {x : Nat} (hx : x < 16 ∨ x = 99) : bJ x = -1 ↔ x = 99 := by
  unfold bJ
  split
  · rename_i c; exact ⟨fun _ => c, fun _ => rfl⟩
  · rename_i c; exact ⟨fun z => absurd z (nI_neg1 (by omega)), fun z => absurd z c⟩
theorem served4 {A : Ab} {s : Nat → Nat} {R : Nat} {k : St} (hA : WF A) (hg : Sg A s R) (hK : RK A s R k) {n : Nat} (hn : n < 16) : ∀ (fu r : Nat), r ≤ R → R < r + fu → Tr_greatestServed_L4 k fu (nI n) (bJ (nxs A s (prt A (100 + n)) r)) (nI r) = some (bJ (nxs A s (prt A (100 + n)) R)) := by
  have hR21 := hg.1
  intro fu
  induction fu with
  | zero => intro r h1 h2; omega
  | succ fu ih =>
    intro r h1 h2
    rw [Tr_greatestServed_L4]; unfold Tr_greatestServed_B4
    rw [hK.rcv]
    simp (disch := omega) only [b1_some, b2_some, lt_e, rd_n, wr_n, nI_add, pk_mul, nI_leI, nI_ltI, nI_eq, nI_1]
    by_cases e : r < R
    · have nx1 := ih (r + 1) (by omega) (by omega)
      rw [if_neg (by omega), Sp_servingNode_e hA hg hK e, b1_some]
      have hp : prt A (100 + n) (s r) = 1 ↔ (if A 14 (s r) = 0 then -1 else bJ (sv A (A 12 (s r)) (A 11 (s r)))) = nI n := by
        unfold prt
        by_cases z : A 14 (s r) = 0
        · rw [if_pos z, if_pos z]; exact ⟨fun q => by omega, fun q => absurd q.symm (nI_neg1 (by omega))⟩
        · have hin := WFr.in hA.1 hA.2.2.2 (hg.2.1 r e) (by omega)
          have hb := sv_bd hA.1 hA.2.1 (f := A 12 (s r)) _ hin
          rw [if_neg z, if_neg z, if_neg (by omega), if_pos (by omega), show 100 + n - 100 = n by omega, bJ_eq hb (by omega)]
          by_cases q : A 12 (s r) ≠ 0 ∧ sv A (A 12 (s r)) (A 11 (s r)) = n
          · rw [if_pos q]; exact ⟨fun _ => q.2, fun _ => rfl⟩
          · rw [if_neg q]
            refine ⟨fun x => by omega, fun x => ?_⟩
            exfalso
            by_cases y : A 12 (s r) = 0
            · rw [y, sv_nat hA _ hin] at x; omega
            · exact q ⟨y, x⟩
      by_cases c : prt A (100 + n) (s r) = 1
      · rw [if_pos (hp.mp c), Tr_greater_e hA hg hK (nxs_bd hR21 (by omega)) e, b1_some, ← nxs_yes c]
        exact nx1
      · rw [if_neg (fun z => c (hp.mpr z))]
        rw [nxs_no c] at nx1
        exact nx1
    · rw [if_pos (by omega)]
      have : r = R := by omega
      subst this
      rfl
theorem unserved4 {A : Ab} {s : Nat → Nat} {R : Nat} {k : St} (hA : WF A) (hg : Sg A s R) (hK : RK A s R k) {f : Nat} (hf1 : 1 ≤ f) (hf : f < 4) : ∀ (fu r : Nat), r ≤ R → R < r + fu → Tr_greatestUnserved_L4 k fu (nI f) (bJ (nxs A s (prt A (200 + f)) r)) (nI r) = some (bJ (nxs A s (prt A (200 + f)) R)) := by
  have hR21 := hg.1
  have hN := hA.1.1
  intro fu
  induction fu with
  | zero => intro r h1 h2; omega
  | succ fu ih =>
    intro r h1 h2
    rw [Tr_greatestUnserved_L4]; unfold Tr_greatestUnserved_B4
    rw [hK.rcv, li0]
    simp (disch := omega) only [b1_some, b2_some, lt_e, rd_n, wr_n, nI_add, pk_mul, nI_leI, nI_ltI, nI_eq, nI_1]
    by_cases e : r < R
    · have nx1 := ih (r + 1) (by omega) (by omega)
      have h14 := hA.l14 (s r) (hg.2.1 r e)
      have h12 := (hg.2.2.2.2 r e).1
      rw [if_neg (by omega)]
      simp (disch := omega) only [b1_some, b2_some, lt_e, rd_n, wr_n, nI_add, pk_mul, nI_leI, nI_ltI, nI_eq, nI_1, hK.lv e, hK.fm e]
      have no : prt A (200 + f) (s r) ≠ 1 → Tr_greatestUnserved_L4 k fu (nI f) (bJ (nxs A s (prt A (200 + f)) r)) (nI (r + 1)) = some (bJ (nxs A s (prt A (200 + f)) R)) := fun c => by
        rw [nxs_no c] at nx1
        exact nx1
      by_cases z : A 14 (s r) = 0
      · rw [if_pos (by omega)]
        exact no (by rw [prt_0 z]; omega)
      · rw [if_neg (by omega)]
        have hin := WFr.in hA.1 hA.2.2.2 (hg.2.1 r e) (by omega)
        have hb := sv_bd hA.1 hA.2.1 (f := A 12 (s r)) _ hin
        have hp : prt A (200 + f) (s r) = if A 12 (s r) = f ∧ (A 12 (s r) = 0 ∨ sv A (A 12 (s r)) (A 11 (s r)) = 99) then 1 else 0 := by
          unfold prt
          rw [if_neg z, if_neg (by omega), if_neg (by omega), show 200 + f - 200 = f by omega]
        by_cases c1 : A 12 (s r) = f
        · rw [if_pos c1, Sp_servingNode_e hA hg hK e, b1_some, if_neg z]
          by_cases c2 : sv A (A 12 (s r)) (A 11 (s r)) = 99
          · rw [if_pos ((bJ_no hb).mpr c2), Tr_greater_e hA hg hK (nxs_bd hR21 (by omega)) e, b1_some, ← nxs_yes (by rw [hp, if_pos ⟨c1, Or.inr c2⟩])]
            exact nx1
          · rw [if_neg (fun q => c2 ((bJ_no hb).mp q))]
            exact no (by rw [hp, if_neg (fun q => q.2.elim (fun y => by omega) c2)]; omega)
        · rw [if_neg c1]
          exact no (by rw [hp, if_neg (fun q => c1 q.1)]; omega)
    · rw [if_pos (by omega)]
      have : r = R := by omega
      subst this
      rfl
theorem lld_pos {A : Ab} {l : Nat} (h : 1 ≤ lld A l) : ∃ n, n < 16 ∧ n ≠ 0 ∧ A 10 n ≠ 0 ∧ lnk A n (upn A n) = l := by
  obtain ⟨n, h1, h2⟩ := (mx_iff (Nat.le_refl 1) 16).mp h
  have h2 : 1 ≤ (if n ≠ 0 ∧ A 10 n ≠ 0 ∧ lnk A n (upn A n) = l then sl A (arD A) n (A 0 2) else 0) := h2
  have := ((ite_ge (Nat.le_refl 1)).mp h2).1
  exact ⟨n, h1, this.1, this.2.1, this.2.2⟩
theorem Tr_nextToLower_e {A : Ab} {s : Nat → Nat} {R : Nat} {k : St} (hA : WF A) (hg : Sg A s R) (hK : RK A s R k) (hM : KM A k) : (Fit A ∧ Tr_nextToLower k = some (-1)) ∨ (¬ Fit A ∧ Tr_nextToLower k = some (bJ (nxs A s (prt A (wrg A)) R))) := by
  have hN := hA.1.1
  have hR21 := hg.1
  obtain ⟨h1, h2, h3⟩ := Fl_over hA hK hM
  unfold Tr_nextToLower Fit
  rw [h1, b1_some]
  by_cases c1 : wrL A < A 0 1
  · have hw : wrg A = wrL A := if_pos c1
    have hov := of_decide_eq_true (fs_yes (p := fun l => decide (A 7 l < lld A l)) (A 0 1) 0 (by rw [Nat.zero_add]; exact c1))
    have hov : A 7 (wrL A) < lld A (wrL A) := hov
    obtain ⟨n0, n1, n2, n3, n4⟩ := lld_pos (A := A) (l := wrL A) (by omega)
    rw [if_pos c1, if_neg (nI_neg1 (by omega)), hw]
    refine Or.inr ⟨by omega, ?_⟩
    rcases Tr_lowerEnd_e hA hK c1 with ⟨n, d1, d2, d3, d4⟩ | ⟨d1, d2⟩
    · rw [d4, b1_some]
      have := below4 hA hg hK d1 d2 d3 (by omega) FU 0 (by omega) (by rw [FU_e]; omega)
      rw [show bJ (nxs A s (prt A (wrL A)) 0) = -1 from rfl, show nI 0 = 0 from rfl] at this
      unfold Tr_greatestBelow
      rw [this, b1_some]
    · exact absurd n4 (d1 n0 ⟨n1, n3⟩ n2)
  · rw [if_neg c1, if_pos rfl, h2, b1_some]
    by_cases c2 : wrN A < A 0 0
    · have hw : wrg A = 100 + wrN A := by unfold wrg; rw [if_neg c1, if_pos c2]
      rw [if_pos c2, if_neg (nI_neg1 (by omega)), hw]
      refine Or.inr ⟨by omega, ?_⟩
      have := served4 hA hg hK (n := wrN A) (by omega) FU 0 (by omega) (by rw [FU_e]; omega)
      rw [show bJ (nxs A s (prt A (100 + wrN A)) 0) = -1 from rfl, show nI 0 = 0 from rfl] at this
      unfold Tr_greatestServed
      rw [this, b1_some]
    · rw [if_neg c2, if_pos rfl, h3, b1_some]
      by_cases c3 : wrF A < A 0 2
      · have hw : wrg A = 200 + wrF A := by unfold wrg; rw [if_neg c1, if_neg c2, if_pos c3]
        have hf1 : 1 ≤ wrF A := (fs_le (p := fun f => decide (0 < ask A 0 f)) (A 0 2 - 1) 1).1
        rw [if_pos c3, if_neg (nI_neg1 (by omega)), hw]
        refine Or.inr ⟨by omega, ?_⟩
        have := unserved4 hA hg hK (f := wrF A) hf1 (by omega) FU 0 (by omega) (by rw [FU_e]; omega)
        rw [show bJ (nxs A s (prt A (200 + wrF A)) 0) = -1 from rfl, show nI 0 = 0 from rfl] at this
        unfold Tr_greatestUnserved
        rw [this, b1_some]
      · rw [if_neg c3, if_pos rfl]
        refine Or.inl ⟨?_, rfl⟩
        unfold wrg
        rw [if_neg c1, if_neg c2, if_neg c3]
/-- the receivers in their own places -/
def sI (r : Nat) : Nat := r
theorem Sg_sI {A : Ab} (hq : WFq A) : Sg A sI (A 0 4) := by
  have h4 := hq.1
  refine ⟨by omega, fun r hr => by show r < 21; omega, fun r q _ _ e => e, fun r hr hl => ⟨r, ?_, rfl⟩, fun r hr => ⟨(hq.2.1 r hr).2.1, (hq.2.1 r hr).1⟩⟩
  apply Classical.byContradiction
  intro n
  have := hq.2.2 r hr (by omega)
  omega
theorem Re_le : ∀ (y : Nat) (A B : Ab), WF A → WFq A → Re y A B → y ≤ sm (A 14) 21 := by
  intro y
  induction y with
  | zero => intro A B _ _ _; omega
  | succ y ih =>
    intro A B hA hq h
    obtain ⟨h1, C, h2, h3⟩ := h
    obtain ⟨c1, c2, _, c4⟩ := step_wf hA hq h1 h2
    have := ih C B c1 c2 h3
    omega
theorem repair4 : ∀ (y fu z i : Nat) (A B : Ab) (k : St), WF A → WFq A → RK A sI (A 0 4) k → Re y A B → i + y ≤ 105 → y + 1 < fu → ∃ k2, Tr_repair_L4 fu (nI z) (nI i) k = some (nI (z + y), k2) ∧ RK B sI (A 0 4) k2 ∧ FK k k2 := by
  intro y
  induction y with
  | zero =>
    intro fu z i A B k hA hq hK hRe hi hf
    obtain ⟨r1, r2⟩ := hRe
    cases fu with
    | zero => omega
    | succ fu =>
      rw [Tr_repair_L4]; unfold Tr_repair_B4
      rw [show (105 : Int32) = nI 105 by decide]
      simp (disch := omega) only [b1_some, b2_some, lt_e, rd_n, wr_n, nI_add, pk_mul, nI_leI, nI_ltI, nI_eq, nI_1]
      obtain ⟨k1, a1, a2, a3, _⟩ := Fl_measure_e hA (Sg_sI hq) hK
      rw [if_neg (by omega), a1, b1_some]
      rcases Tr_nextToLower_e hA (Sg_sI hq) (a2.rk hK) a3 with ⟨_, c2⟩ | ⟨c1, _⟩
      · rw [c2, b1_some, if_pos rfl]
        rw [r2]
        exact ⟨k1, rfl, a2.rk hK, a2.k⟩
      · exact absurd r1 c1
  | succ y ih =>
    intro fu z i A B k hA hq hK hRe hi hf
    obtain ⟨r1, C, r2, r3⟩ := hRe
    cases fu with
    | zero => omega
    | succ fu =>
      have hg := Sg_sI hq
      have h4 := hq.1
      rw [Tr_repair_L4]; unfold Tr_repair_B4
      rw [show (105 : Int32) = nI 105 by decide]
      simp (disch := omega) only [b1_some, b2_some, lt_e, rd_n, wr_n, nI_add, pk_mul, nI_leI, nI_ltI, nI_eq, nI_1]
      obtain ⟨k1, a1, a2, a3, _⟩ := Fl_measure_e hA hg hK
      rw [if_neg (by omega), a1, b1_some]
      have hK1 := a2.rk hK
      rcases Tr_nextToLower_e hA hg hK1 a3 with ⟨c1, _⟩ | ⟨_, c2⟩
      · exact absurd c1 r1
      · obtain ⟨n1, n2⟩ := nxw_sp hA hq r1
        have hnx : nxs A sI (prt A (wrg A)) (A 0 4) = nxw A := rfl
        rw [hnx] at c2
        rw [c2, b1_some, show bJ (nxw A) = nI (nxw A) from if_neg (by omega), if_neg (nI_neg1 (by omega))]
        have hlv : gt k1 23 (nxw A) = nI (A 14 (nxw A) - 1 + 1) := by
          rw [hK1.lv n1, show A 14 (nxw A) - 1 + 1 = A 14 (nxw A) by omega]; rfl
        simp (disch := omega) only [b1_some, b2_some, lt_e, rd_n, wr_n, nI_add, pk_mul, nI_leI, nI_ltI, nI_eq, nI_1, hlv, nI_m1]
        have hlow := low_wf hA (r := nxw A) (v := A 14 (nxw A) - 1) (by omega)
        have hK2 := hK1.sl hg (v := A 14 (nxw A) - 1) n1
        have hK2 : RK (up2 A 14 (nxw A) (A 14 (nxw A) - 1)) sI (A 0 4) (st k1 23 (nxw A) (nI (A 14 (nxw A) - 1))) := hK2
        have hg2 : Sg (up2 A 14 (nxw A) (A 14 (nxw A) - 1)) sI (A 0 4) := hg.lv n1
        obtain ⟨k3, d1, d2, d3⟩ := Sp_prune_e hlow hg2 hK2 r2
        rw [d1, b1_some]
        obtain ⟨s1, s2, s3, s4⟩ := step_wf hA hq r1 r2
        have e4 : C 0 4 = A 0 4 := s3 0 4 (by omega) (by omega)
        rw [← e4] at d2
        obtain ⟨k4, e1, e2, e3⟩ := ih fu (z + 1) (i + 1) C B k3 s1 s2 d2 r3 (by omega) (by omega)
        rw [e4] at e2
        refine ⟨k4, by rw [e1, show z + 1 + y = z + (y + 1) by omega], e2, ((a2.k.tr (FK.st (by omega))).tr d3).tr e3⟩
theorem Tr_repair_e {A B : Ab} {k : St} {y : Nat} (hA : WF A) (hq : WFq A) (hK : RK A sI (A 0 4) k) (h : Re y A B) : ∃ k2, Tr_repair k = some (nI y, k2) ∧ RK B sI (A 0 4) k2 ∧ FK k k2 := by
  have h1 := Re_le y A B hA hq h
  have h2 := sm_le (g := A 14) (b := 5) 21 (fun j hj => hA.l14 j hj)
  have := repair4 y FU 0 0 A B k hA hq hK h (by omega) (by rw [FU_e]; omega)
  rw [Nat.zero_add] at this
  exact this
