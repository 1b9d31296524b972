/-! ===== PHASE B: lowering, in the reference ===== -/
theorem ov_le {A : Ab} (hs : WFs A) (ht : WFt A) {l : Nat} : ∀ n, inT A n → ov A l n ≤ 1 := by
  refine up_ind hs ht (P := fun n => ov A l n ≤ 1) (by rw [ov, wk_0]; omega) (fun n hn h0 _ ih => ?_)
  have e : ov A l n = if lnk A n (upn A n) = l then 1 else ov A l (upn A n) := wk_up hs ht hn h0
  rw [e]; split
  · omega
  · exact ih
theorem sv_0 {A : Ab} {f : Nat} : sv A f 0 = if A 9 f = 1 then 0 else 99 := rfl
theorem sv_up {A : Ab} (hs : WFs A) (ht : WFt A) {f n : Nat} (hn : inT A n) (h0 : n ≠ 0) : sv A f n = if A 9 (4 * n + f) = 1 then n else sv A f (upn A n) := wk_up hs ht hn h0
theorem sv_bd {A : Ab} (hs : WFs A) (ht : WFt A) {f : Nat} : ∀ n, inT A n → sv A f n < 16 ∨ sv A f n = 99 := by
  refine up_ind hs ht (P := fun n => sv A f n < 16 ∨ sv A f n = 99) ?_ (fun n hn h0 _ ih => ?_)
  · rw [sv_0]; split
    · exact Or.inl (by omega)
    · exact Or.inr rfl
  · rw [sv_up hs ht hn h0]; split
    · exact Or.inl hn.1
    · exact ih
/-- who has a part in what is wrong -/
def prt (A : Ab) (w r : Nat) : Nat := if A 14 r = 0 then 0 else if w < 100 then ov A w (A 11 r) else if w < 200 then (if A 12 r ≠ 0 ∧ sv A (A 12 r) (A 11 r) = w - 100 then 1 else 0) else if A 12 r = w - 200 ∧ (A 12 r = 0 ∨ sv A (A 12 r) (A 11 r) = 99) then 1 else 0
theorem svI_eq {x y : Nat} (hx : x < 16 ∨ x = 99) (hy : y < 99) : svI x = nI y ↔ x = y := by
  unfold svI
  split
  · rename_i c; exact ⟨fun z => absurd z.symm (nI_neg2 (by omega)), fun z => by omega⟩
  · exact nI_eq (by omega) (by omega)
theorem svI_pos {x : Nat} (hx : x < 16 ∨ x = 99) : 0 ≤ svI x ↔ x ≠ 99 := by
  unfold svI
  split
  · rename_i c; exact ⟨fun z => absurd z (by decide), fun z => absurd c z⟩
  · rename_i c; exact ⟨fun _ => c, fun _ => nI_pos' (by omega)⟩
theorem wrg_sp {A : Ab} (hs : WFs A) (h : ¬ Fit A) : (wrg A < A 0 1 ∧ A 7 (wrg A) < lld A (wrg A)) ∨ (100 ≤ wrg A ∧ wrg A - 100 < A 0 0 ∧ A 4 (wrg A - 100) < cld A (wrg A - 100)) ∨ (201 ≤ wrg A ∧ wrg A - 200 < A 0 2 ∧ 0 < ask A 0 (wrg A - 200)) := by
  have hN := hs.1
  unfold Fit at h
  unfold wrg at h ⊢
  by_cases c1 : wrL A < A 0 1
  · rw [if_pos c1]
    have := of_decide_eq_true (fs_yes (p := fun l => decide (A 7 l < lld A l)) (A 0 1) 0 (by rw [Nat.zero_add]; exact c1))
    exact Or.inl ⟨c1, this⟩
  · rw [if_neg c1] at h ⊢
    by_cases c2 : wrN A < A 0 0
    · rw [if_pos c2]
      have := of_decide_eq_true (fs_yes (p := fun n => decide (A 4 n < cld A n)) (A 0 0) 0 (by rw [Nat.zero_add]; exact c2))
      refine Or.inr (Or.inl ⟨by omega, ?_⟩)
      rw [show 100 + wrN A - 100 = wrN A by omega]
      exact ⟨c2, this⟩
    · rw [if_neg c2] at h ⊢
      by_cases c3 : wrF A < A 0 2
      · rw [if_pos c3]
        have := of_decide_eq_true (fs_yes (p := fun f => decide (0 < ask A 0 f)) (A 0 2 - 1) 1 (by show wrF A < 1 + (A 0 2 - 1); omega))
        have h1 := (fs_le (p := fun f => decide (0 < ask A 0 f)) (A 0 2 - 1) 1).1
        have h1 : 1 ≤ wrF A := h1
        refine Or.inr (Or.inr ⟨by omega, ?_⟩)
        rw [show 200 + wrF A - 200 = wrF A by omega]
        exact ⟨c3, this⟩
      · rw [if_neg c3] at h; exact absurd rfl h
theorem sl_pos {A D : Ab} {n : Nat} : ∀ g, 1 ≤ sl A D n g → ∃ f, f < g ∧ 1 ≤ as_ A D n f := by
  intro g
  induction g with
  | zero => intro h; rw [sl] at h; omega
  | succ g ih =>
    intro h
    rw [sl] at h
    by_cases c : as_ A D n g = 0
    · rw [c, rt] at h
      obtain ⟨f, a, b⟩ := ih (by omega)
      exact ⟨f, by omega, b⟩
    · exact ⟨g, by omega, by omega⟩
theorem cs_pos {A D : Ab} {n : Nat} : ∀ g, 1 ≤ cs A D n g → ∃ f, f < g ∧ f ≠ 0 ∧ A 9 (4 * n + f) = 1 ∧ 1 ≤ D 0 (4 * n + f) := by
  intro g
  induction g with
  | zero => intro h; rw [cs] at h; omega
  | succ g ih =>
    intro h
    rw [cs] at h
    by_cases c : 1 ≤ cs A D n g
    · obtain ⟨f, a, b⟩ := ih c
      exact ⟨f, by omega, b⟩
    · split at h
      · rename_i d
        refine ⟨g, by omega, d.1, d.2, ?_⟩
        apply Classical.byContradiction
        intro q
        have : D 0 (4 * n + g) = 0 := by omega
        rw [this, Nat.mul_zero] at h
        omega
      · omega
theorem pick {A : Ab} (hA : WF A) (h : ¬ Fit A) : ∃ r, r < 21 ∧ 0 < A 14 r ∧ prt A (wrg A) r = 1 := by
  obtain ⟨hs, ht, hc, hr⟩ := hA
  have hN := hs.1
  rcases wrg_sp hs h with ⟨h1, h2⟩ | ⟨h1, h2, h3⟩ | ⟨h1, h2, h3⟩
  · have h3 : 1 ≤ lld A (wrg A) := by omega
    unfold lld at h3
    obtain ⟨n, n1, n2⟩ := (mx_iff (Nat.le_refl 1) 16).mp h3
    have n2 := (ite_ge (Nat.le_refl 1)).mp n2
    obtain ⟨f, f1, f2⟩ := sl_pos _ n2.2
    obtain ⟨g, g1, g2, g3⟩ := (as_iff hs (Nat.le_refl 1) f1).mp f2
    have hin : inT A n := ⟨n1, n2.1.2.1⟩
    obtain ⟨r, r1, r2, i, r3, r4, r5⟩ := (arD_iff hs ht hr (Nat.le_refl 1) hin g1).mp g3
    refine ⟨r, r1, by omega, ?_⟩
    unfold prt
    rw [if_neg (by omega), if_pos (by omega)]
    exact ov_chn hs ht n2.1.1 n2.1.2.2 i _ (WFr.in hs hr r1 (by omega)) r3 r4
  · have h4 : 1 ≤ cld A (wrg A - 100) := by omega
    unfold cld at h4
    have hin : A 10 (wrg A - 100) ≠ 0 := fun z => by rw [if_pos z] at h4; omega
    rw [if_neg hin] at h4
    obtain ⟨f, f1, f2, f3, f4⟩ := cs_pos _ h4
    have hin : inT A (wrg A - 100) := ⟨by omega, hin⟩
    obtain ⟨r, r1, r2, i, r3, r4, r5⟩ := (arD_iff hs ht hr (Nat.le_refl 1) hin f1).mp f4
    obtain ⟨s1, s2⟩ := sv_chn hs ht i _ _ (WFr.in hs hr r1 (by omega)) r3 r5 f2
    refine ⟨r, r1, by omega, ?_⟩
    unfold prt
    rw [if_neg (by omega), if_neg (by omega), if_pos (by omega), s1, s2, r4, if_pos]
    refine ⟨f2, ?_⟩
    by_cases z : wrg A - 100 = 0
    · rw [z, sv_0, if_pos]
      rw [z] at f3
      rw [Nat.mul_zero, Nat.zero_add] at f3
      exact f3
    · rw [sv_up hs ht hin z, if_pos f3]
  · have h4 : 1 ≤ ask A 0 (wrg A - 200) := by omega
    unfold ask at h4
    rw [if_neg (by rw [ht.1]; omega)] at h4
    obtain ⟨g, g1, g2, g3⟩ := (as_iff hs (Nat.le_refl 1) h2).mp h4
    obtain ⟨r, r1, r2, i, r3, r4, r5⟩ := (arD_iff hs ht hr (Nat.le_refl 1) (inT_0 ht) g1).mp g3
    have hg : g = wrg A - 200 ∧ ¬ A 9 (4 * 0 + g) = 1 := by
      unfold stp at g2
      split at g2
      · omega
      · rename_i q; exact ⟨g2, fun z => q ⟨by omega, z⟩⟩
    obtain ⟨s1, s2⟩ := sv_chn hs ht i _ _ (WFr.in hs hr r1 (by omega)) r3 r5 (by omega)
    refine ⟨r, r1, by omega, ?_⟩
    unfold prt
    rw [if_neg (by omega), if_neg (by omega), if_neg (by omega), s1, s2, r4, if_pos]
    refine ⟨hg.1, Or.inr ?_⟩
    rw [sv_0, if_neg]
    rw [Nat.mul_zero, Nat.zero_add] at hg
    exact hg.2
theorem M_isPartOf_e {A : Ab} {m : St} (hA : WF A) (hR : RM A m) {r w : Nat} (hr : r < 21) (hf : A 12 r < 4) (hw : w < A 0 1 ∨ (100 ≤ w ∧ w < 116) ∨ (200 ≤ w ∧ w < 204)) : M_isPartOf m (nI r) (nI w) = some (nI (prt A w r)) := by
  have hN := hA.1.1
  have h14 := hA.l14 r hr
  have hsv := M_servedBy_e hA.1 hA.2.1 hA.2.2.1 hR hA.2.2.2 hr (by omega) hf
  have e3 : M_of m (nI r) 3 = some (nI (A 14 r)) := M_of_e hR hr (w := 3) (by omega)
  have e1 : M_of m (nI r) 1 = some (nI (A 12 r)) := M_of_e hR hr (w := 1) (by omega)
  unfold M_isPartOf prt
  rw [hsv]
  simp (disch := omega) only [b1_some, b2_some, lt_e, rd_n, wr_n, nI_add, pk_mul, nI_leI, nI_ltI, nI_eq, nI_1, li200, li100, e3, e1]
  by_cases c1 : w < 200
  · rw [if_pos c1]
    by_cases c2 : w < 100
    · rw [if_pos c2, if_pos c2, show nI w - 0 = nI w from Int32.sub_zero _, M_isOver_e hA.1 hA.2.1 hR hA.2.2.2 hr (by omega) (by omega), b1_some]
      by_cases c3 : A 14 r = 0
      · rw [if_pos c3]; rfl
      · rw [if_neg c3]
        have := ov_le hA.1 hA.2.1 (l := w) _ (WFr.in hA.1 hA.2.2.2 hr (by omega))
        rcases (show ov A w (A 11 r) = 0 ∨ ov A w (A 11 r) = 1 by omega) with q | q <;> rw [q] <;> rfl
    · rw [if_neg c2, if_neg c2, if_pos c1, pk_sub (by omega)]
      by_cases c3 : A 14 r = 0
      · rw [if_pos c3, if_pos (Or.inl c3), if_neg (fun z => nI_neg2 (by omega) z.symm)]; rfl
      · rw [if_neg c3]
        by_cases c4 : A 12 r = 0
        · rw [if_pos (Or.inr c4), if_neg (fun z => nI_neg2 (by omega) z.symm), if_neg (fun z => z.1 c4)]; rfl
        · rw [if_neg (show ¬ (A 14 r = 0 ∨ A 12 r = 0) from fun z => z.elim c3 c4)]
          have hb := sv_bd hA.1 hA.2.1 (f := A 12 r) _ (WFr.in hA.1 hA.2.2.2 hr (by omega))
          by_cases c5 : sv A (A 12 r) (A 11 r) = w - 100
          · rw [if_pos ((svI_eq hb (by omega)).mpr c5), if_pos ⟨c4, c5⟩]; rfl
          · rw [if_neg (fun z => c5 ((svI_eq hb (by omega)).mp z)), if_neg (fun z => c5 z.2)]; rfl
  · rw [if_neg c1, if_neg (show ¬ w < 100 by omega), if_neg c1, pk_sub (by omega), li0]
    simp (disch := omega) only [b1_some, b2_some, lt_e, rd_n, wr_n, nI_add, pk_mul, nI_leI, nI_ltI, nI_eq, nI_1]
    by_cases c3 : A 14 r = 0
    · rw [if_pos (show A 14 r ≤ 0 by omega), if_pos c3]
    · rw [if_neg (show ¬ A 14 r ≤ 0 by omega), if_neg c3]
      by_cases c4 : A 12 r = w - 200
      · rw [if_pos c4]
        have hb := sv_bd hA.1 hA.2.1 (f := A 12 r) _ (WFr.in hA.1 hA.2.2.2 hr (by omega))
        by_cases c5 : A 12 r = 0
        · rw [if_pos (Or.inr c5), if_neg (by decide), if_pos ⟨c4, Or.inl c5⟩]; rfl
        · rw [if_neg (show ¬ (A 14 r = 0 ∨ A 12 r = 0) from fun z => z.elim c3 c5)]
          by_cases c6 : sv A (A 12 r) (A 11 r) = 99
          · rw [← li0, if_neg (fun z => ((svI_pos hb).mp z) c6), if_pos ⟨c4, Or.inr c6⟩]; rfl
          · rw [← li0, if_pos ((svI_pos hb).mpr c6), if_neg (fun z => z.2.elim c5 c6)]; rfl
      · rw [if_neg c4, if_neg (fun z => c4 z.1)]
/-- of those with a part the one with the greatest level, the last of such -/
def nx (p lv : Nat → Nat) : Nat → Nat
  | 0 => 99
  | r + 1 => if p r = 1 ∧ (nx p lv r = 99 ∨ lv (nx p lv r) ≤ lv r) then r else nx p lv r
theorem nx_sp {p lv : Nat → Nat} : ∀ k, k ≤ 99 → (nx p lv k = 99 ∧ ∀ r, r < k → p r ≠ 1) ∨ (nx p lv k < k ∧ p (nx p lv k) = 1) := by
  intro k
  induction k with
  | zero => intro _; exact Or.inl ⟨rfl, fun r h => by omega⟩
  | succ k ih =>
    intro hk
    rw [nx]
    split
    · rename_i c; exact Or.inr ⟨by omega, c.1⟩
    · rename_i c
      rcases ih (by omega) with ⟨a, b⟩ | ⟨a, b⟩
      · refine Or.inl ⟨a, fun r hr => ?_⟩
        by_cases e : r = k
        · rw [e]; exact fun z => c ⟨z, Or.inl a⟩
        · exact b r (by omega)
      · exact Or.inr ⟨by omega, b⟩
def nxw (A : Ab) : Nat := nx (prt A (wrg A)) (A 14) (A 0 4)
theorem bI_u' {u : Nat} (h : u < 99) : bI u = nI u := if_neg (by omega)
theorem repairs17 {A : Ab} {m : St} (hA : WF A) (hR : RM A m) (hc4 : A 0 4 ≤ 20) (hf : ∀ r, r < A 0 4 → A 12 r < 4) {w : Nat} (hw : w < A 0 1 ∨ (100 ≤ w ∧ w < 116) ∨ (200 ≤ w ∧ w < 204)) (v1 : Int32) (k : Int32 → Int32 → Option (Int32 × St)) : ∀ (fu r : Nat), r ≤ A 0 4 → A 0 4 < r + fu → M_repairs_L17 m k fu v1 (nI w) (bI (nx (prt A w) (A 14) r)) (nI r) = k v1 (bI (nx (prt A w) (A 14) (A 0 4))) := by
  have hN := hA.1.1
  intro fu
  induction fu with
  | zero => intro r h1 h2; omega
  | succ fu ih =>
    intro r h1 h2
    rw [M_repairs_L17]; unfold M_repairs_B17
    rw [li96]
    simp (disch := omega) only [b1_some, b2_some, lt_e, rd_n, wr_n, nI_add, pk_mul, nI_leI, nI_ltI, nI_eq, nI_1, hR.rcv]
    by_cases e : r < A 0 4
    · rw [if_neg (by omega), M_isPartOf_e hA hR (by omega) (hf r e) hw, b1_some]
      have nxt := ih (r + 1) (by omega) (by omega)
      rw [nx] at nxt
      have h14 := hA.l14 r (by omega)
      by_cases c1 : prt A w r = 1
      · rw [if_neg (fun z => by rw [c1] at z; exact absurd z (by decide))]
        rcases nx_sp (p := prt A w) (lv := A 14) r (by omega) with ⟨a, b⟩ | ⟨a, b⟩
        · rw [a, show bI 99 = -2 from rfl, if_pos (by decide)]
          rw [if_pos ⟨c1, Or.inl a⟩, bI_u' (by omega)] at nxt
          exact nxt
        · have h14b := hA.l14 (nx (prt A w) (A 14) r) (by omega)
          rw [bI_u' (by omega), if_neg (nI_pos (by omega)), show M_of m (nI r) 3 = some (nI (A 14 r)) from M_of_e hR (by omega) (w := 3) (by omega), b1_some, show M_of m (nI (nx (prt A w) (A 14) r)) 3 = some (nI (A 14 (nx (prt A w) (A 14) r))) from M_of_e hR (by omega) (w := 3) (by omega), b1_some]
          simp (disch := omega) only [b1_some, b2_some, lt_e, rd_n, wr_n, nI_add, pk_mul, nI_leI, nI_ltI, nI_eq, nI_1]
          by_cases c2 : A 14 r < A 14 (nx (prt A w) (A 14) r)
          · rw [if_pos c2]
            rw [if_neg (fun z => z.2.elim (by omega) (by omega)), bI_u' (by omega)] at nxt
            exact nxt
          · rw [if_neg c2]
            rw [if_pos ⟨c1, Or.inr (by omega)⟩, bI_u' (by omega)] at nxt
            exact nxt
      · have hp : prt A w r = 0 := by
          have : prt A w r ≤ 1 := by
            unfold prt
            split
            · omega
            · rename_i q
              split
              · exact ov_le hA.1 hA.2.1 _ (WFr.in hA.1 hA.2.2.2 (by omega) (by omega))
              · split
                · split <;> omega
                · split <;> omega
          omega
        rw [if_pos (by rw [hp]; rfl)]
        rw [if_neg (fun z => c1 z.1)] at nxt
        exact nxt
    · rw [if_pos (by omega)]
      have : r = A 0 4 := by omega
      subst this
      rfl
