/-! ===== PHASE B: grafting, in the reference ===== -/
theorem nI_m1 (a : Nat) : nI (a + 1) - 1 = nI a := by
  rw [← nI_1, Int32.add_sub_cancel]
theorem nI_d1 (a : Nat) : nI (a + 1) + -1 = nI a := by
  rw [← nI_1]
  have : (1 : Int32) + -1 = 0 := by decide
  rw [Int32.add_assoc, this, Int32.add_zero]
/-- a way hung into the tree, its first i nodes behind the first -/
def attF (A : Ab) (p : Nat → Nat) : Nat → Ab
  | 0 => A
  | i + 1 => up2 (attF A p i) 10 (p (i + 1)) (p i + 2)
theorem WFt.add {A : Ab} (hs : WFs A) (ht : WFt A) {x y l : Nat} (hx : A 10 x = 0) (hxN : x < A 0 0) (hy : inT A y) (hl : Lk A x y l) : WFt (up2 A 10 x (y + 2)) := by
  have hN := hs.1
  have hyN := inT_lt hs ht hy
  have hx0 : x ≠ 0 := fun e => by rw [e, ht.1] at hx; omega
  have hyx : y ≠ x := fun e => by rw [← e] at hx; exact hy.2 hx
  obtain ⟨g, hg⟩ := ht.2.2.2
  refine ⟨?_, fun c hc h1 => ?_, fun c hc h2 => ?_, fun n => if n = x then g y + 1 else g n, fun c hc h2 => ?_⟩
  · rw [up2_ne (by omega)]; exact ht.1
  · by_cases e : c = x
    · subst e; rw [up2_same]; omega
    · rw [up2_ne (by omega)]; exact ht.2.1 c hc h1
  · by_cases e : c = x
    · subst e
      rw [up2_same, show y + 2 - 2 = y by omega, up2_ne (by omega), up2_ne (by omega)]
      exact ⟨hxN, hyN, hy.2, l, hl⟩
    · rw [up2_ne (by omega)] at h2 ⊢
      obtain ⟨a, b, d, l2, w⟩ := ht.2.2.1 c hc h2
      have : A 10 c - 2 ≠ x := fun q => by rw [q] at d; exact d hx
      rw [up2_ne (by omega), up2_ne (by omega)]
      exact ⟨a, b, d, l2, w⟩
  · by_cases e : c = x
    · subst e
      rw [up2_same, show y + 2 - 2 = y by omega]
      show (if y = c then g y + 1 else g y) < (if c = c then g y + 1 else g c)
      rw [if_pos rfl, if_neg hyx]; omega
    · rw [up2_ne (by omega)] at h2 ⊢
      obtain ⟨a, b, d, _⟩ := ht.2.2.1 c hc h2
      have hq : A 10 c - 2 ≠ x := fun q => by rw [q] at d; exact d hx
      show (if A 10 c - 2 = x then g y + 1 else g (A 10 c - 2)) < (if c = x then g y + 1 else g c)
      rw [if_neg hq, if_neg e]
      exact hg c hc h2
theorem att_ne {A : Ab} {p : Nat → Nat} : ∀ i a j, (a ≠ 10 ∨ ∀ h, 1 ≤ h → h ≤ i → p h ≠ j) → attF A p i a j = A a j := by
  intro i
  induction i with
  | zero => intro a j _; rfl
  | succ i ih =>
    intro a j h
    rw [attF, up2_ne, ih a j]
    · rcases h with h | h
      · exact Or.inl h
      · exact Or.inr (fun q a b => h q a (by omega))
    · rcases h with h | h
      · exact Or.inl h
      · exact Or.inr (fun q => h (i + 1) (by omega) (by omega) q.symm)
theorem att_ec {A : Ab} {p : Nat → Nat} (i : Nat) : Ec A (attF A p i) := fun a j h _ => att_ne i a j (Or.inl (by omega))
theorem att_at {A : Ab} {R t n : Nat} {p : Nat → Nat} (hw : Way A R t n p) : ∀ i, i ≤ n → ∀ h, 1 ≤ h → h ≤ i → attF A p i 10 (p h) = p (h - 1) + 2 := by
  intro i
  induction i with
  | zero => intro _ h h1 h2; omega
  | succ i ih =>
    intro hi h h1 h2
    rw [attF]
    by_cases e : h = i + 1
    · rw [e, up2_same]; rfl
    · rw [up2_ne (Or.inr (way_ne hw (by omega) hi)), ih (by omega) h h1 (by omega)]
theorem way_bd {A : Ab} (hs : WFs A) (ht : WFt A) {R t n : Nat} {p : Nat → Nat} (hw : Way A R t n p) : ∀ i, i ≤ n → p i < A 0 0 := fun i hi => by
  by_cases z : i = 0
  · rw [z]; exact inT_lt hs ht hw.2.2.2.2.2.2.2.1
  · have := (hw.2.2.2.2.2.2.2.2 (i - 1) (by omega)).2.1
    rw [show i - 1 + 1 = i by omega] at this; exact this
theorem way_out {A : Ab} {R t n : Nat} {p : Nat → Nat} (hw : Way A R t n p) : ∀ i, 1 ≤ i → i ≤ n → A 10 (p i) = 0 := fun i h1 hi => by
  have := (hw.2.2.2.2.2.2.2.2 (i - 1) (by omega)).2.2.1
  rw [show i - 1 + 1 = i by omega] at this; exact this
theorem att_wf {A : Ab} (hs : WFs A) (ht : WFt A) {R t n : Nat} {p : Nat → Nat} (hw : Way A R t n p) : ∀ i, i ≤ n → WFt (attF A p i) ∧ (∀ x, A 10 x ≠ 0 → attF A p i 10 x = A 10 x) ∧ inT (attF A p i) (p i) := by
  have hN := hs.1
  intro i
  induction i with
  | zero => intro _; exact ⟨ht, fun _ _ => rfl, hw.2.2.2.2.2.2.2.1⟩
  | succ i ih =>
    intro hi
    obtain ⟨h1, h2, h3⟩ := ih (by omega)
    have hb := way_bd hs ht hw (i + 1) hi
    have ho := way_out hw (i + 1) (by omega) hi
    have hes := (att_ec (A := A) (p := p) i).s
    have h4 : attF A p i 10 (p (i + 1)) = 0 := by
      rw [att_ne i 10 _ (Or.inr (fun h a b => way_ne hw (by omega) hi))]; exact ho
    rw [attF]
    refine ⟨WFt.add (WFs_es hes hs) h1 h4 (by rw [hes 0 0 (by omega) (by omega)]; exact hb) h3 ((Lk_es hes).mpr (hw.2.2.2.2.2.2.2.2 i (by omega)).2.2.2.2.1), fun x hx => ?_, ⟨by omega, by rw [up2_same]; omega⟩⟩
    rw [up2_ne (Or.inr (fun e => hx (by rw [e]; exact ho))), h2 x hx]
theorem RM.lvl {A : Ab} {m : St} (hs : WFs A) (h : RM A m) {r w : Nat} (v : Nat) (hr : r < 21) (hw : w < 5) : RM (up2 A (11 + w) r v) (st m 4 (97 + 5 * r + w) (nI v)) := by
  have hN := hs.1
  refine ⟨?_, ?_⟩
  · rw [st_row_ne (by omega)]
    obtain ⟨a1, a2, a3, a4, a5⟩ := h.1
    have e : ∀ a j, a < 11 → up2 A (11 + w) r v a j = A a j := fun a j ha => up2_ne (by omega)
    refine ⟨?_, fun l hl => ?_, fun n hn => ?_, fun f hf => ?_, fun f j hf hj => ?_⟩
    · rw [e 0 0 (by omega), e 0 1 (by omega), e 0 2 (by omega), e 0 3 (by omega)]; exact a1
    · rw [e 0 1 (by omega)] at hl
      rw [e 1 l (by omega), e 2 l (by omega), e 3 l (by omega)]; exact a2 l hl
    · rw [e 4 n (by omega)]; exact a3 n hn
    · rw [e 5 f (by omega)]; exact a4 f hf
    · rw [e 0 2 (by omega)] at hf
      rw [e 0 3 (by omega)] at hj
      rw [e 6 _ (by omega)]; exact a5 f j hf hj
  · rw [st_row_same]
    obtain ⟨h1, h2, h3, h4, h5⟩ := h.2
    have e : ∀ a j, a < 11 → up2 A (11 + w) r v a j = A a j := fun a j ha => up2_ne (by omega)
    refine ⟨fun l hl => ?_, fun j hj => ?_, fun j hj => ?_, ?_, fun r2 hr2 => ?_⟩
    · rw [e 0 1 (by omega)] at hl
      rw [upd_e, upd_e, if_neg (by omega), if_neg (by omega), e 7 l (by omega), e 8 l (by omega)]
      exact h1 l hl
    · rw [upd_e, if_neg (by omega)]
      rw [show pmk (up2 A (11 + w) r v) j = pmk A j by unfold pmk; rw [e 9 _ (by omega), e 9 _ (by omega), e 9 _ (by omega), e 9 _ (by omega)]]
      exact h2 j hj
    · rw [upd_e, if_neg (by omega), e 10 j (by omega)]; exact h3 j hj
    · rw [upd_e, if_neg (by omega), e 0 4 (by omega)]; exact h4
    · obtain ⟨q0, q1, q2, q3, q4⟩ := h5 r2 hr2
      have key : ∀ w2, w2 < 5 → (m.1 4 (97 + 5 * r2 + w2) = nI (A (11 + w2) r2)) → upd (m.1 4) (97 + 5 * r + w) (nI v) (97 + 5 * r2 + w2) = nI (up2 A (11 + w) r v (11 + w2) r2) := fun w2 hw2 q => by
        rw [upd_e]
        by_cases c : r2 = r ∧ w2 = w
        · obtain ⟨c1, c2⟩ := c
          subst c1; subst c2
          rw [if_pos rfl, up2_same]
        · rw [if_neg (by omega), up2_ne (by omega)]; exact q
      exact ⟨key 0 (by omega) q0, key 1 (by omega) q1, key 2 (by omega) q2, key 3 (by omega) q3, key 4 (by omega) q4⟩
theorem RM_ext {A B : Ab} {m : St} (h1 : ∀ a j, a ≠ 10 → B a j = A a j) (h2 : ∀ j, j < 16 → B 10 j = A 10 j) (h : RM B m) : RM A m := by
  have e : ∀ a, a ≠ 10 → B a = A a := fun a ha => funext fun j => h1 a j ha
  obtain ⟨⟨a1, a2, a3, a4, a5⟩, b1, b2, b3, b4, b5⟩ := h
  rw [e 0 (by omega)] at a1 a2 a5 b1 b4
  rw [e 1 (by omega), e 2 (by omega), e 3 (by omega)] at a2
  rw [e 4 (by omega)] at a3
  rw [e 5 (by omega)] at a4
  rw [e 6 (by omega)] at a5
  rw [e 7 (by omega), e 8 (by omega)] at b1
  rw [e 11 (by omega), e 12 (by omega), e 13 (by omega), e 14 (by omega), e 15 (by omega)] at b5
  refine ⟨⟨a1, a2, a3, a4, a5⟩, b1, fun n hn => ?_, fun n hn => ?_, b4, b5⟩
  · rw [b2 n hn]; unfold pmk; rw [e 9 (by omega)]
  · rw [b3 n hn, h2 n hn]
theorem tries18 {A : Ab} (v1 v2 v3 v4 : Int32) (k : Int32 → Int32 → Int32 → Int32 → St → Option (Int32 × St)) : ∀ (fu i : Nat) (m : St), RM A m → i ≤ 16 → 16 < i + fu → (∀ j, j < i → gt m 14 j = pI (A 10 j)) → ∃ m2, M_tries_L18 k fu v1 v2 v3 v4 (nI i) m = k v1 v2 v3 v4 m2 ∧ Fw m m2 ∧ RM A m2 ∧ ∀ j, j < 16 → gt m2 14 j = pI (A 10 j) := by
  intro fu
  induction fu with
  | zero => intro i m _ h1 h2; omega
  | succ fu ih =>
    intro i m hR h1 h2 h3
    rw [M_tries_L18]; unfold M_tries_B18
    rw [li16, li80]
    simp (disch := omega) only [b1_some, b2_some, lt_e, rd_n, wr_n, nI_add, pk_mul, nI_leI, nI_ltI, nI_eq, nI_1]
    by_cases e : i < 16
    · rw [if_neg (by omega)]
      have hF : Fw m (st m 14 i (gt m 4 (80 + i))) := Fw.st (by omega)
      have hR2 : RM A (st m 14 i (gt m 4 (80 + i))) := by unfold RM; rw [st_row_ne (by omega), st_row_ne (by omega)]; exact hR
      obtain ⟨m2, g1, g2, g3⟩ := ih (i + 1) _ hR2 (by omega) (by omega) (fun j hj => by
        by_cases d : j = i
        · subst d; rw [gt_st_same]; exact hR.2.2.2.1 j e
        · rw [gt_st_i d]; exact h3 j (by omega))
      simp (disch := omega) only [rd_n, wr_n, b1_some]
      exact ⟨m2, g1, hF.tr g2, g3⟩
    · rw [if_pos (by omega)]
      exact ⟨m, rfl, Fw.rf, hR, fun j hj => h3 j (by omega)⟩
