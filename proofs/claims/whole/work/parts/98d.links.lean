/-! ===== PHASE B: reading links ===== -/
def ZR (k : St) : Prop := ∀ f, f < 4 → gt k 18 (f * 6) = 0
/-- the draft while links and cpus are read -/
def D1 (A : Ab) (k m : St) : Prop := ((2 ≤ A 0 0 ∧ A 0 0 ≤ 16 ∧ A 0 1 ≤ 32) ∧ (∀ l, l < A 0 1 → A 1 l < A 0 0 ∧ A 2 l < A 0 0 ∧ A 1 l ≠ A 2 l ∧ 1 ≤ A 3 l ∧ A 3 l ≤ 99 ∧ A 7 l ≤ 9999) ∧ (∀ a b l l2, Lk A a b l → Lk A a b l2 → l = l2) ∧ ∀ n, n < 16 → A 4 n ≤ 999) ∧ ((gt m 3 0 = nI (A 0 0) ∧ gt m 3 1 = nI (A 0 1) ∧ gt m 3 3 = 0) ∧ (∀ l, l < A 0 1 → gt m 3 (4 + 4 * l) = nI (A 1 l) ∧ gt m 3 (4 + 4 * l + 1) = nI (A 2 l) ∧ gt m 3 (4 + 4 * l + 2) = nI (A 7 l) ∧ gt m 3 (4 + 4 * l + 3) = nI (A 3 l)) ∧ (∀ n, n < 16 → gt m 3 (132 + n) = nI (A 4 n)) ∧ ∀ f, f < 4 → gt m 3 (168 + f) = 0) ∧ ((gt k 10 0 = nI (A 0 0) ∧ gt k 10 1 = nI (A 0 1)) ∧ (∀ l, l < A 0 1 → gt k 11 l = nI (A 1 l) ∧ gt k 12 l = nI (A 2 l) ∧ gt k 13 l = nI (A 7 l) ∧ gt k 14 l = nI (A 3 l)) ∧ (∀ a b, a < 16 → b < 16 → (∀ l, Lk A a b l → gt k 15 (a * 16 + b) = nI l) ∧ ((∀ l, ¬ Lk A a b l) → gt k 15 (a * 16 + b) = -1)) ∧ (∀ n, n < 16 → gt k 16 n = nI (A 4 n)) ∧ ZR k)
theorem D1.row {A : Ab} {k m k2 m2 : St} (h : D1 A k m) (h1 : ∀ j, 10 ≤ j → j ≤ 18 → k2.1 j = k.1 j) (h2 : m2.1 3 = m.1 3) : D1 A k2 m2 := by
  obtain ⟨w, ⟨⟨a1, a2, a3⟩, a4, a5, a6⟩, ⟨b1', b2'⟩, b3', b4', b5', b6'⟩ := h
  have g : ∀ j i, 10 ≤ j → j ≤ 18 → gt k2 j i = gt k j i := fun j i x y => by rw [gt_e, h1 j x y]; rfl
  have gm : ∀ i, gt m2 3 i = gt m 3 i := fun i => by rw [gt_e, h2]; rfl
  refine ⟨w, ⟨⟨by rw [gm]; exact a1, by rw [gm]; exact a2, by rw [gm]; exact a3⟩, fun l hl => by rw [gm, gm, gm, gm]; exact a4 l hl, fun n hn => by rw [gm]; exact a5 n hn, fun f hf => by rw [gm]; exact a6 f hf⟩, ⟨by rw [g 10 _ (by omega) (by omega)]; exact b1', by rw [g 10 _ (by omega) (by omega)]; exact b2'⟩, fun l hl => by rw [g 11 _ (by omega) (by omega), g 12 _ (by omega) (by omega), g 13 _ (by omega) (by omega), g 14 _ (by omega) (by omega)]; exact b3' l hl, fun a b x y => by rw [g 15 _ (by omega) (by omega)]; exact b4' a b x y, fun n hn => by rw [g 16 _ (by omega) (by omega)]; exact b5' n hn, fun f hf => by rw [g 18 _ (by omega) (by omega)]; exact b6' f hf⟩
theorem D1.f {A : Ab} {k m k2 m2 : St} (h : D1 A k m) (h1 : FnK k k2) (h2 : FnM m m2) : D1 A k2 m2 := h.row (fun j x y => h1 j (by omega)) (h2.1 3 (by omega))
theorem D1.z {A : Ab} {k m : St} (h : D1 A k m) : ZR k := h.2.2.2.2.2.2
theorem ZR.f {k k2 : St} (h : ZR k) (h1 : FnK k k2) : ZR k2 := fun f hf => by rw [gt_e, h1 18 (by omega)]; exact h f hf
/-- the parse has failed, on both sides alike -/
def BadO (k m k2 m2 : St) : Prop := Bd k2 m2 ∧ ZR k2 ∧ FpK k k2 ∧ FpM m m2
theorem BadO.tr {k m k1 m1 k2 m2 : St} (h : BadO k1 m1 k2 m2) (f1 : FpK k k1) (f2 : FpM m m1) : BadO k m k2 m2 := ⟨h.1, h.2.1, f1.tr h.2.2.1, f2.tr h.2.2.2⟩
theorem PS.bad {T : Nat} {B : Nat → Nat} {k m : St} (h : PS T B k m) (hz : ZR k) : BadO k m k (bdM m) := ⟨h.bd, hz, FpK.rf, FpM.bd⟩
theorem J129_b {m : St} (h : gt m 0 11 = 0) (v1 v2 v3 v4 v5 z : Int32) : M_readLink_J129 v1 v2 v3 v4 v5 z m = some m := by
  unfold M_readLink_J129; rw [takes_b h, b1_some, if_pos h]
theorem J87r_b {m : St} (h : gt m 0 11 = 0) (v1 v2 v3 : Int32) : (b2 (M_numberBehind m 104690984601 0 9999) fun x10 q11 => b2 (M_numberBehind q11 4370489 1 99) fun x12 q13 => if gt q13 0 8 = 3 then M_readLink_J129 v1 v2 v3 x10 x12 1 q13 else M_readLink_J129 v1 v2 v3 x10 x12 0 q13) = some m := by
  obtain ⟨x, hx⟩ := behind_b h 104690984601 0 9999
  obtain ⟨y, hy⟩ := behind_b h 4370489 1 99
  rw [hx, b2_some, hy, b2_some, J129_b h, J129_b h]
  split <;> rfl
theorem J87_b {m : St} (h : gt m 0 11 = 0) (v1 v2 v3 z : Int32) : M_readLink_J87 v1 v2 v3 z m = some m := by
  unfold M_readLink_J87; rw [takes_b h, b1_some]; exact J87r_b h v1 v2 v3
theorem J87_0 {m : St} (h : gt m 0 11 = 1) (v1 v2 v3 : Int32) : M_readLink_J87 v1 v2 v3 0 m = some (bdM m) := by
  unfold M_readLink_J87; rw [takes_0 h, b1_some]; exact J87r_b bdM_f v1 v2 v3
theorem joined2 {A : Ab} {k m : St} (h : D1 A k m) {a b : Nat} (ha : a < 16) (hb : b < 16) : ∀ (fu l : Nat), l ≤ A 0 1 → A 0 1 < l + fu → ((∃ j, l ≤ j ∧ Lk A a b j) ∧ M_isJoined_L2 m fu (nI a) (nI b) (nI l) = some 1) ∨ ((∀ j, l ≤ j → ¬ Lk A a b j) ∧ M_isJoined_L2 m fu (nI a) (nI b) (nI l) = some 0) := by
  obtain ⟨⟨⟨w1, w2, w3⟩, w4, w5, w6⟩, ⟨⟨a1, a2, a3⟩, a4, _⟩, _⟩ := h
  intro fu
  induction fu with
  | zero => intro l h1 h2; omega
  | succ fu ih =>
    intro l h1 h2
    rw [M_isJoined_L2]; unfold M_isJoined_B2
    rw [rd_at 1 li1 (by omega) (by omega), b1_some, a2]
    by_cases e : l < A 0 1
    · have q := w4 l e
      obtain ⟨p1, p2, _⟩ := a4 l e
      rw [if_neg (fun z => by have := (nI_leI (by omega) (by omega)).mp z; omega), li4, pk_mul, nI_add, rd_n (by omega) (by omega), b1_some, nI_1, rd_n (by omega) (by omega), b1_some, p1, p2]
      unfold M_isJoined_J50
      simp (disch := omega) only [b1_some, b2_some, lt_e, rd_n, wr_n, nI_add, pk_mul, nI_leI, nI_ltI, nI_eq, nI_1]
      have yes : Lk A a b l → ((∃ j, l ≤ j ∧ Lk A a b j) ∧ some (1 : Int32) = some 1) ∨ ((∀ j, l ≤ j → ¬ Lk A a b j) ∧ some (1 : Int32) = some 0) := fun z => Or.inl ⟨⟨l, Nat.le_refl _, z⟩, rfl⟩
      have no : ¬ Lk A a b l → ((∃ j, l ≤ j ∧ Lk A a b j) ∧ M_isJoined_L2 m fu (nI a) (nI b) (nI (l + 1)) = some 1) ∨ ((∀ j, l ≤ j → ¬ Lk A a b j) ∧ M_isJoined_L2 m fu (nI a) (nI b) (nI (l + 1)) = some 0) := fun z => by
        rcases ih (l + 1) (by omega) (by omega) with ⟨⟨j, j1, j2⟩, y⟩ | ⟨j1, y⟩
        · exact Or.inl ⟨⟨j, by omega, j2⟩, y⟩
        · refine Or.inr ⟨fun j hj => ?_, y⟩
          by_cases d : j = l
          · rw [d]; exact z
          · exact j1 j (by omega)
      by_cases c1 : A 1 l = a
      · rw [if_pos c1]
        by_cases c2 : A 2 l = b
        · rw [if_pos c2]; exact yes ⟨e, Or.inl ⟨c1, c2⟩⟩
        · rw [if_neg c2]
          by_cases c3 : A 1 l = b
          · rw [if_pos c3]
            by_cases c4 : A 2 l = a
            · rw [if_pos c4]; exact yes ⟨e, Or.inr ⟨c3, c4⟩⟩
            · rw [if_neg c4]; exact no (fun z => z.2.elim (fun y => c2 y.2) (fun y => c4 y.2))
          · rw [if_neg c3]; exact no (fun z => z.2.elim (fun y => c2 y.2) (fun y => c3 y.1))
      · rw [if_neg c1]
        by_cases c3 : A 1 l = b
        · rw [if_pos c3]
          by_cases c4 : A 2 l = a
          · rw [if_pos c4]; exact yes ⟨e, Or.inr ⟨c3, c4⟩⟩
          · rw [if_neg c4]; exact no (fun z => z.2.elim (fun y => c1 y.1) (fun y => c4 y.2))
        · rw [if_neg c3]; exact no (fun z => z.2.elim (fun y => c1 y.1) (fun y => c3 y.1))
    · rw [if_pos ((nI_leI (by omega) (by omega)).mpr (by omega))]
      exact Or.inr ⟨fun j hj z => by have := z.1; omega, rfl⟩
/-- a link more -/
def adl (A : Ab) (a b c d : Nat) : Ab := up2 (up2 (up2 (up2 (up2 A 1 (A 0 1) a) 2 (A 0 1) b) 7 (A 0 1) c) 3 (A 0 1) d) 0 1 (A 0 1 + 1)
theorem adl_ne {A : Ab} {a b c d x j : Nat} (h : (x ≠ 1 ∧ x ≠ 2 ∧ x ≠ 7 ∧ x ≠ 3) ∨ j ≠ A 0 1) (h2 : x ≠ 0 ∨ j ≠ 1) : adl A a b c d x j = A x j := by
  unfold adl
  rw [up2_ne (by omega), up2_ne (by omega), up2_ne (by omega), up2_ne (by omega), up2_ne (by omega)]
theorem adl_at {A : Ab} {a b c d : Nat} : adl A a b c d 1 (A 0 1) = a ∧ adl A a b c d 2 (A 0 1) = b ∧ adl A a b c d 7 (A 0 1) = c ∧ adl A a b c d 3 (A 0 1) = d ∧ adl A a b c d 0 1 = A 0 1 + 1 := by
  unfold adl
  refine ⟨?_, ?_, ?_, ?_, up2_same⟩
  · rw [up2_ne (by omega), up2_ne (by omega), up2_ne (by omega), up2_ne (by omega), up2_same]
  · rw [up2_ne (by omega), up2_ne (by omega), up2_ne (by omega), up2_same]
  · rw [up2_ne (by omega), up2_ne (by omega), up2_same]
  · rw [up2_ne (by omega), up2_same]
theorem adl_Lk {A : Ab} {a b c d x y l : Nat} : Lk (adl A a b c d) x y l ↔ Lk A x y l ∨ (l = A 0 1 ∧ ((a = x ∧ b = y) ∨ (a = y ∧ b = x))) := by
  obtain ⟨e1, e2, e3, e4, e5⟩ := adl_at (A := A) (a := a) (b := b) (c := c) (d := d)
  unfold Lk
  rw [e5]
  by_cases q : l = A 0 1
  · rw [q, e1, e2]
    exact ⟨fun z => Or.inr ⟨rfl, z.2⟩, fun z => z.elim (fun w => by omega) (fun w => ⟨by omega, w.2⟩)⟩
  · rw [adl_ne (Or.inr q) (by omega), adl_ne (Or.inr q) (by omega)]
    exact ⟨fun z => Or.inl ⟨by omega, z.2⟩, fun z => z.elim (fun w => ⟨by omega, w.2⟩) (fun w => absurd w.1 q)⟩
/-- both lay the link into their drafts -/
theorem putLink_both {A : Ab} {k m : St} (h : D1 A k m) (hf : gt m 0 11 = 1) {a b c d : Nat} (hL : A 0 1 < 32) (ha : a < A 0 0) (hb : b < A 0 0) (hab : a ≠ b) (hno : ∀ l, ¬ Lk A a b l) (hc : c ≤ 9999) (hd1 : 1 ≤ d) (hd2 : d ≤ 99) : ∃ k2 m2, Su_putLink k (nI a) (nI b) (nI c) (nI d) = some k2 ∧ (b1 (wr 172 m 3 ((4 : Int32) + ((4 : Int32) * nI (A 0 1))) (nI a)) fun q17 => b1 (wr 172 q17 3 (((4 : Int32) + ((4 : Int32) * nI (A 0 1))) + (1 : Int32)) (nI b)) fun q18 => b1 (wr 172 q18 3 (((4 : Int32) + ((4 : Int32) * nI (A 0 1))) + (2 : Int32)) (nI c)) fun q19 => b1 (wr 172 q19 3 (((4 : Int32) + ((4 : Int32) * nI (A 0 1))) + (3 : Int32)) (nI d)) fun q20 => b1 (rd 172 q20 3 (1 : Int32)) fun x21 => b1 (wr 172 q20 3 (1 : Int32) (x21 + (1 : Int32))) fun q22 => some q22) = some m2 ∧ D1 (adl A a b c d) k2 m2 ∧ (∀ j, j < 10 ∨ 15 < j → k2.1 j = k.1 j) ∧ (∀ j, j ≠ 3 → m2.1 j = m.1 j) ∧ m2.2 = m.2 := by
  obtain ⟨⟨⟨w1, w2, w3⟩, w4, w5, w6⟩, ⟨⟨a1, a2, a3⟩, a4, a5, a6⟩, ⟨b1', b2'⟩, b3', b4', b5', b6'⟩ := h
  obtain ⟨e1, e2, e3, e4, e5⟩ := adl_at (A := A) (a := a) (b := b) (c := c) (d := d)
  unfold Su_putLink
  rw [b2', wr_n hL (by omega), b1_some, gt_st_k (by omega), b2', wr_n hL (by omega), b1_some, gt_st_k (by omega), gt_st_k (by omega), b2', wr_n hL (by omega), b1_some, gt_st_k (by omega), gt_st_k (by omega), gt_st_k (by omega), b2', wr_n hL (by omega), b1_some, gt_st_k (by omega), gt_st_k (by omega), gt_st_k (by omega), gt_st_k (by omega), b2', li16, pk_mul, nI_add, wr_n (by omega) (by omega), b1_some, gt_st_k (by omega), gt_st_k (by omega), gt_st_k (by omega), gt_st_k (by omega), gt_st_k (by omega), b2', pk_mul, nI_add, wr_n (by omega) (by omega), b1_some, lt_e, gt_st_k (by omega), gt_st_k (by omega), gt_st_k (by omega), gt_st_k (by omega), gt_st_k (by omega), gt_st_k (by omega), b2', nI_1]
  rw [li4, pk_mul, nI_add, nI_1, wr_n (by omega) (by omega), b1_some, wr_n (by omega) (by omega), b1_some, li2, nI_add, wr_n (by omega) (by omega), b1_some, li3, nI_add, wr_n (by omega) (by omega), b1_some, rd_at 1 li1 (by omega) (by omega), b1_some, gt_st_i (by omega), gt_st_i (by omega), gt_st_i (by omega), gt_st_i (by omega), a2, nI_1, wr_at 1 li1 (by omega) (by omega), b1_some]
  obtain ⟨k2, hk2⟩ : ∃ k2, k2 = st (st (st (st (st (st (st k 11 (A 0 1) (nI a)) 12 (A 0 1) (nI b)) 13 (A 0 1) (nI c)) 14 (A 0 1) (nI d)) 15 (a * 16 + b) (nI (A 0 1))) 15 (b * 16 + a) (nI (A 0 1))) 10 1 (nI (A 0 1 + 1)) := ⟨_, rfl⟩
  obtain ⟨m2, hm2⟩ : ∃ m2, m2 = st (st (st (st (st m 3 (4 + 4 * A 0 1) (nI a)) 3 (4 + 4 * A 0 1 + 1) (nI b)) 3 (4 + 4 * A 0 1 + 2) (nI c)) 3 (4 + 4 * A 0 1 + 3) (nI d)) 3 1 (nI (A 0 1 + 1)) := ⟨_, rfl⟩
  rw [← hk2, ← hm2]
  have gM : ∀ i, i ≠ 1 → (i < 4 + 4 * A 0 1 ∨ 4 + 4 * A 0 1 + 3 < i) → gt m2 3 i = gt m 3 i := fun i x y => by
    rw [hm2, gt_st_i x, gt_st_i (by omega), gt_st_i (by omega), gt_st_i (by omega), gt_st_i (by omega)]
  have g1 : ∀ i, i ≠ A 0 1 → gt k2 11 i = gt k 11 i ∧ gt k2 12 i = gt k 12 i ∧ gt k2 13 i = gt k 13 i ∧ gt k2 14 i = gt k 14 i := fun i hi => by
    rw [hk2]
    refine ⟨?_, ?_, ?_, ?_⟩
    · rw [gt_st_k (by omega), gt_st_k (by omega), gt_st_k (by omega), gt_st_k (by omega), gt_st_k (by omega), gt_st_k (by omega), gt_st_i hi]
    · rw [gt_st_k (by omega), gt_st_k (by omega), gt_st_k (by omega), gt_st_k (by omega), gt_st_k (by omega), gt_st_i hi, gt_st_k (by omega)]
    · rw [gt_st_k (by omega), gt_st_k (by omega), gt_st_k (by omega), gt_st_k (by omega), gt_st_i hi, gt_st_k (by omega), gt_st_k (by omega)]
    · rw [gt_st_k (by omega), gt_st_k (by omega), gt_st_k (by omega), gt_st_i hi, gt_st_k (by omega), gt_st_k (by omega), gt_st_k (by omega)]
  have g2 : gt k2 11 (A 0 1) = nI a ∧ gt k2 12 (A 0 1) = nI b ∧ gt k2 13 (A 0 1) = nI c ∧ gt k2 14 (A 0 1) = nI d := by
    rw [hk2]
    refine ⟨?_, ?_, ?_, ?_⟩
    · rw [gt_st_k (by omega), gt_st_k (by omega), gt_st_k (by omega), gt_st_k (by omega), gt_st_k (by omega), gt_st_k (by omega), gt_st_same]
    · rw [gt_st_k (by omega), gt_st_k (by omega), gt_st_k (by omega), gt_st_k (by omega), gt_st_k (by omega), gt_st_same]
    · rw [gt_st_k (by omega), gt_st_k (by omega), gt_st_k (by omega), gt_st_k (by omega), gt_st_same]
    · rw [gt_st_k (by omega), gt_st_k (by omega), gt_st_k (by omega), gt_st_same]
  have g15 : ∀ i, gt k2 15 i = if i = b * 16 + a ∨ i = a * 16 + b then nI (A 0 1) else gt k 15 i := fun i => by
    rw [hk2, gt_st_k (by omega)]
    by_cases q : i = b * 16 + a
    · rw [if_pos (Or.inl q), q, gt_st_same]
    · rw [gt_st_i q]
      by_cases r : i = a * 16 + b
      · rw [if_pos (Or.inr r), r, gt_st_same]
      · rw [gt_st_i r, if_neg (fun z => z.elim q r), gt_st_k (by omega), gt_st_k (by omega), gt_st_k (by omega), gt_st_k (by omega)]
  have g0 : ∀ j i, j = 10 ∨ j = 16 ∨ j = 18 → (j ≠ 10 ∨ i ≠ 1) → gt k2 j i = gt k j i := fun j i hj hi => by
    rw [hk2, gt_st, if_neg (fun z => by omega), gt_st_k (by omega), gt_st_k (by omega), gt_st_k (by omega), gt_st_k (by omega), gt_st_k (by omega), gt_st_k (by omega)]
  refine ⟨k2, m2, rfl, rfl, ⟨⟨?_, fun l hl => ?_, fun x y l l2 h1 h2 => ?_, fun n hn => ?_⟩, ⟨⟨?_, ?_, ?_⟩, fun l hl => ?_, fun n hn => ?_, fun f hf2 => ?_⟩, ⟨?_, ?_⟩, fun l hl => ?_, fun x y hx hy => ⟨fun l hl => ?_, fun hl => ?_⟩, fun n hn => ?_, fun f hf2 => ?_⟩, fun j hj => ?_, fun j hj => ?_, by rw [hm2]; rfl⟩
  · rw [e5, adl_ne (by omega) (by omega)]; omega
  · rw [e5] at hl
    rw [adl_ne (x := 0) (j := 0) (by omega) (by omega)]
    by_cases q : l = A 0 1
    · rw [q, e1, e2, e3, e4]; exact ⟨ha, hb, hab, hd1, hd2, hc⟩
    · rw [adl_ne (Or.inr q) (by omega), adl_ne (Or.inr q) (by omega), adl_ne (Or.inr q) (by omega), adl_ne (Or.inr q) (by omega)]
      exact w4 l (by omega)
  · rw [adl_Lk] at h1 h2
    rcases h1 with h1 | ⟨h1, h1'⟩ <;> rcases h2 with h2 | ⟨h2, h2'⟩
    · exact w5 x y l l2 h1 h2
    · rcases h2' with ⟨p, q⟩ | ⟨p, q⟩
      · rw [← p, ← q] at h1; exact absurd h1 (hno l)
      · rw [← p, ← q] at h1; exact absurd h1.symm (hno l)
    · rcases h1' with ⟨p, q⟩ | ⟨p, q⟩
      · rw [← p, ← q] at h2; exact absurd h2 (hno l2)
      · rw [← p, ← q] at h2; exact absurd h2.symm (hno l2)
    · omega
  · rw [adl_ne (by omega) (by omega)]; exact w6 n hn
  · rw [gM 0 (by omega) (by omega), adl_ne (by omega) (by omega)]; exact a1
  · rw [e5, hm2, gt_st_same]
  · rw [gM 3 (by omega) (by omega)]; exact a3
  · rw [e5] at hl
    by_cases q : l = A 0 1
    · rw [q, e1, e2, e3, e4, hm2]
      refine ⟨?_, ?_, ?_, ?_⟩
      · rw [gt_st_i (by omega), gt_st_i (by omega), gt_st_i (by omega), gt_st_i (by omega), gt_st_same]
      · rw [gt_st_i (by omega), gt_st_i (by omega), gt_st_i (by omega), gt_st_same]
      · rw [gt_st_i (by omega), gt_st_i (by omega), gt_st_same]
      · rw [gt_st_i (by omega), gt_st_same]
    · rw [adl_ne (Or.inr q) (by omega), adl_ne (Or.inr q) (by omega), adl_ne (Or.inr q) (by omega), adl_ne (Or.inr q) (by omega), gM _ (by omega) (by omega), gM _ (by omega) (by omega), gM _ (by omega) (by omega), gM _ (by omega) (by omega)]
      exact a4 l (by omega)
  · rw [gM _ (by omega) (by omega), adl_ne (by omega) (by omega)]; exact a5 n hn
  · rw [gM _ (by omega) (by omega)]; exact a6 f hf2
  · rw [g0 10 0 (by omega) (by omega), adl_ne (by omega) (by omega)]; exact b1'
  · rw [e5, hk2, gt_st_same]
  · rw [e5] at hl
    by_cases q : l = A 0 1
    · rw [q, e1, e2, e3, e4]; exact g2
    · obtain ⟨r1, r2, r3, r4⟩ := g1 l q
      rw [adl_ne (Or.inr q) (by omega), adl_ne (Or.inr q) (by omega), adl_ne (Or.inr q) (by omega), adl_ne (Or.inr q) (by omega), r1, r2, r3, r4]
      exact b3' l (by omega)
  · rw [adl_Lk] at hl
    rw [g15]
    rcases hl with hl | ⟨hl, hl'⟩
    · rw [if_neg (fun z => by
        have : (x = a ∧ y = b) ∨ (x = b ∧ y = a) := by omega
        rcases this with ⟨p, q⟩ | ⟨p, q⟩
        · rw [p, q] at hl; exact hno l hl
        · rw [p, q] at hl; exact hno l hl.symm)]
      exact (b4' x y hx hy).1 l hl
    · rw [if_pos (by
        rcases hl' with ⟨p, q⟩ | ⟨p, q⟩
        · rw [← p, ← q]; exact Or.inr rfl
        · rw [← p, ← q]; exact Or.inl rfl), hl]
  · rw [g15, if_neg (fun z => by
      have : (x = a ∧ y = b) ∨ (x = b ∧ y = a) := by omega
      refine hl (A 0 1) (adl_Lk.mpr (Or.inr ⟨rfl, ?_⟩))
      rcases this with ⟨p, q⟩ | ⟨p, q⟩
      · exact Or.inl ⟨p.symm, q.symm⟩
      · exact Or.inr ⟨q.symm, p.symm⟩)]
    exact (b4' x y hx hy).2 (fun l z => hl l (adl_Lk.mpr (Or.inl z)))
  · rw [g0 16 n (by omega) (by omega), adl_ne (by omega) (by omega)]; exact b5' n hn
  · rw [g0 18 _ (by omega) (by omega)]; exact b6' f hf2
  · rw [hk2, st_row_ne (by omega), st_row_ne (by omega), st_row_ne (by omega), st_row_ne (by omega), st_row_ne (by omega), st_row_ne (by omega), st_row_ne (by omega)]
  · rw [hm2, st_row_ne hj, st_row_ne hj, st_row_ne hj, st_row_ne hj, st_row_ne hj]
