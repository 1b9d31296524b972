/-! ===== PHASE B: pruning, in the reference ===== -/
/-- rows of the world and what is scratch, apart from them nothing changes -/
def Fw (m m2 : St) : Prop := (∀ k, k ≠ 0 → k ≠ 4 → k < 7 ∨ 14 < k → m2.1 k = m.1 k) ∧ (∀ i, i ≠ 23 → m2.1 0 i = m.1 0 i) ∧ m2.2 = m.2
theorem Fw.rf {m : St} : Fw m m := ⟨fun _ _ _ _ => rfl, fun _ _ => rfl, rfl⟩
theorem Fw.tr {a b c : St} (h : Fw a b) (h2 : Fw b c) : Fw a c := ⟨fun k x y z => (h2.1 k x y z).trans (h.1 k x y z), fun i hi => (h2.2.1 i hi).trans (h.2.1 i hi), h2.2.2.trans h.2.2⟩
theorem Fw.st {m : St} {k i : Nat} {v : Int32} (hk : k = 4 ∨ (7 ≤ k ∧ k ≤ 14)) : Fw m (st m k i v) := ⟨fun j a b c => st_row_ne (by omega), fun j _ => by rw [st_row_ne (by omega)], rfl⟩
theorem Fm.w {m m2 : St} (h : Fm m m2) : Fw m m2 := ⟨fun k a b c => h.1 k (by omega), fun i _ => by rw [h.1 0 (by omega)], h.2⟩
theorem RM.par {A : Ab} {m : St} (hs : WFs A) (h : RM A m) {n : Nat} (v : Nat) (hn : n < 16) : RM (up2 A 10 n v) (st m 4 (80 + n) (pI v)) := by
  have hN := hs.1
  refine ⟨?_, ?_⟩
  · rw [st_row_ne (by omega)]; exact h.1
  · rw [st_row_same]
    obtain ⟨h1, h2, h3, h4, h5⟩ := h.2
    refine ⟨fun l hl => ?_, fun j hj => ?_, fun j hj => ?_, ?_, fun r hr => ?_⟩
    · have hl' : l < A 0 1 := hl
      rw [upd_e, upd_e, if_neg (by omega), if_neg (by omega)]
      exact h1 l hl'
    · rw [upd_e, if_neg (by omega)]; exact h2 j hj
    · rw [upd_e]
      by_cases e : j = n
      · subst e; rw [if_pos rfl, up2_same]
      · rw [if_neg (by omega), up2_ne (by omega)]; exact h3 j hj
    · rw [upd_e, if_neg (by omega)]; exact h4
    · rw [upd_e, upd_e, upd_e, upd_e, upd_e, if_neg (by omega), if_neg (by omega), if_neg (by omega), if_neg (by omega), if_neg (by omega)]
      exact h5 r hr
/-- two pictures with the same setup, and with the same capacities, doors and converters -/
def Es (A B : Ab) : Prop := ∀ a j, a < 7 → (a ≠ 0 ∨ j < 4) → B a j = A a j
def Ec (A B : Ab) : Prop := ∀ a j, a < 10 → (a ≠ 0 ∨ j < 4) → B a j = A a j
theorem Ec.s {A B : Ab} (h : Ec A B) : Es A B := fun a j x y => h a j (by omega) y
theorem Lk_es {A B : Ab} (h : Es A B) {a b l : Nat} : Lk B a b l ↔ Lk A a b l := by
  unfold Lk
  rw [h 0 1 (by omega) (by omega), h 1 l (by omega) (by omega), h 2 l (by omega) (by omega)]
theorem WFs_es {A B : Ab} (h : Es A B) (hs : WFs A) : WFs B := by
  obtain ⟨h1, h2, h3, h4, h5, h6⟩ := hs
  refine ⟨?_, fun l hl => ?_, fun a b l l2 x y => ?_, fun n hn => ?_, fun f hf => ?_, fun f j hf hj => ?_⟩
  · rw [h 0 0 (by omega) (by omega), h 0 1 (by omega) (by omega), h 0 2 (by omega) (by omega), h 0 3 (by omega) (by omega)]; exact h1
  · rw [h 0 1 (by omega) (by omega)] at hl
    rw [h 0 0 (by omega) (by omega), h 1 l (by omega) (by omega), h 2 l (by omega) (by omega), h 3 l (by omega) (by omega)]; exact h2 l hl
  · exact h3 a b l l2 ((Lk_es h).mp x) ((Lk_es h).mp y)
  · rw [h 4 n (by omega) (by omega)]; exact h4 n hn
  · rw [h 5 f (by omega) (by omega)]; exact h5 f hf
  · rw [h 0 2 (by omega) (by omega)] at hf
    rw [h 0 3 (by omega) (by omega)] at hj
    rw [h 6 _ (by omega) (by omega)]; exact h6 f j hf hj
theorem WFc_ec {A B : Ab} (h : Ec A B) (hc : WFc A) : WFc B := by
  refine ⟨fun l hl => ?_, fun n f hn hf => ?_⟩
  · rw [h 0 1 (by omega) (by omega)] at hl
    rw [h 7 l (by omega) (by omega), h 8 l (by omega) (by omega)]; exact hc.1 l hl
  · rw [h 0 0 (by omega) (by omega), h 0 2 (by omega) (by omega), h 9 _ (by omega) (by omega)]; exact hc.2 n f hn hf
def Bare (B : Ab) (n : Nat) : Prop := (∀ c, 1 ≤ c → c < B 0 0 → B 10 c ≠ n + 2) ∧ ∀ r, r < 21 → 0 < B 14 r → B 11 r ≠ n
theorem bare43 {A : Ab} {m : St} (hl14 : ∀ r, r < 21 → A 14 r ≤ 5) (h11 : ∀ r, r < 21 → 0 < A 14 r → A 11 r < 16) (hR : RM A m) {n : Nat} (hn : n < 16) : ∀ (fu r : Nat), r ≤ 21 → 21 < r + fu → ∃ z, M_isBare_L43 m fu (nI n) (nI r) = some z ∧ ((z = 1 ∧ ∀ r2, r ≤ r2 → r2 < 21 → 0 < A 14 r2 → A 11 r2 ≠ n) ∨ (z = 0 ∧ ∃ r2, r ≤ r2 ∧ r2 < 21 ∧ 0 < A 14 r2 ∧ A 11 r2 = n)) := by
  intro fu
  induction fu with
  | zero => intro r h1 h2; omega
  | succ fu ih =>
    intro r h1 h2
    rw [M_isBare_L43]; unfold M_isBare_B43
    by_cases e : r < 21
    · have e3 : M_of m (nI r) 3 = some (nI (A 14 r)) := M_of_e hR e (w := 3) (by omega)
      have e0 : M_of m (nI r) 0 = some (nI (A 11 r)) := M_of_e hR e (w := 0) (by omega)
      have hlv := hl14 r e
      have h16 := h11 r e
      rw [e3, e0]
      simp (disch := omega) only [b1_some, b2_some, lt_e, rd_n, wr_n, nI_add, pk_mul, nI_leI, nI_ltI, nI_eq, nI_1, li20]
      rw [if_neg (by omega), li0]
      simp (disch := omega) only [b1_some, b2_some, lt_e, rd_n, wr_n, nI_add, pk_mul, nI_leI, nI_ltI, nI_eq, nI_1]
      by_cases c : A 14 r = 0
      · rw [if_pos (by omega)]
        obtain ⟨z, g1, g2⟩ := ih (r + 1) (by omega) (by omega)
        refine ⟨z, g1, ?_⟩
        rcases g2 with ⟨a, b⟩ | ⟨a, r2, b, d⟩
        · refine Or.inl ⟨a, fun r2 x y w => ?_⟩
          by_cases q : r2 = r
          · rw [q] at w; omega
          · exact b r2 (by omega) y w
        · exact Or.inr ⟨a, r2, by omega, d⟩
      · rw [if_neg (by omega)]
        have h16 := h16 (by omega)
        (try simp (disch := omega) only [b1_some, b2_some, lt_e, rd_n, wr_n, nI_add, pk_mul, nI_leI, nI_ltI, nI_eq, nI_1])
        by_cases d : A 11 r = n
        · rw [if_pos d]
          exact ⟨_, rfl, Or.inr ⟨rfl, r, by omega, e, by omega, d⟩⟩
        · rw [if_neg d]
          obtain ⟨z, g1, g2⟩ := ih (r + 1) (by omega) (by omega)
          refine ⟨z, g1, ?_⟩
          rcases g2 with ⟨a, b⟩ | ⟨a, r2, b, d⟩
          · refine Or.inl ⟨a, fun r2 x y w => ?_⟩
            by_cases q : r2 = r
            · rw [q]; exact d
            · exact b r2 (by omega) y w
          · exact Or.inr ⟨a, r2, by omega, d⟩
    · have : r = 21 := by omega
      subst this
      exact ⟨1, rfl, Or.inl ⟨rfl, fun r2 a b => by omega⟩⟩
theorem pI_eq {x n : Nat} (hx : 2 ≤ x) (hx2 : x < 2 ^ 30) (hn : n < 2 ^ 30) : pI x = nI n ↔ x = n + 2 := by
  rw [pI_in hx, nI_eq (by omega) (by omega)]; omega
theorem bare2 {A : Ab} {m : St} (hs : WFs A) (ht : WFt A) (hR : RM A m) (k : Int32 → Option Int32) {n : Nat} (hn : n < 16) : ∀ (fu c : Nat), c ≤ A 0 0 → A 0 0 < c + fu → (M_isBare_L2 m k fu (nI n) (nI c) = k (nI n) ∧ (∀ d, c ≤ d → 1 ≤ d → d < A 0 0 → A 10 d ≠ n + 2)) ∨ (M_isBare_L2 m k fu (nI n) (nI c) = some 0 ∧ ∃ d, c ≤ d ∧ 1 ≤ d ∧ d < A 0 0 ∧ A 10 d = n + 2) := by
  have hN := hs.1
  intro fu
  induction fu with
  | zero => intro c h1 h2; omega
  | succ fu ih =>
    intro c h1 h2
    rw [M_isBare_L2]; unfold M_isBare_B2
    simp (disch := omega) only [b1_some, b2_some, lt_e, rd_n, wr_n, nI_add, pk_mul, nI_leI, nI_ltI, nI_eq, nI_1, li0, hR.g0]
    by_cases e : c < A 0 0
    · rw [if_neg (by omega)]
      have skip : (c = 0 ∨ A 10 c ≠ n + 2) → (M_isBare_L2 m k fu (nI n) (nI (c + 1)) = k (nI n) ∧ (∀ d, c ≤ d → 1 ≤ d → d < A 0 0 → A 10 d ≠ n + 2)) ∨ (M_isBare_L2 m k fu (nI n) (nI (c + 1)) = some (nI 0) ∧ ∃ d, c ≤ d ∧ 1 ≤ d ∧ d < A 0 0 ∧ A 10 d = n + 2) := fun q => by
        rcases ih (c + 1) (by omega) (by omega) with ⟨a, b⟩ | ⟨a, d, b, x⟩
        · refine Or.inl ⟨a, fun d x y z => ?_⟩
          by_cases w : d = c
          · rw [w] at y ⊢; exact q.elim (by omega) id
          · exact b d (by omega) y z
        · exact Or.inr ⟨a, d, by omega, x⟩
      by_cases c0 : c = 0
      · rw [if_pos (by omega)]; exact skip (Or.inl c0)
      · rw [if_neg (by omega), M_isIn_e (par_bd hs ht) hR (by omega), b1_some]
        by_cases c1 : A 10 c = 0
        · rw [if_pos c1, if_pos li0]; exact skip (Or.inr (by omega))
        · rw [if_neg c1, if_neg (by decide), M_up_e hR (by omega), b1_some]
          have h2 : 2 ≤ A 10 c := by have := ht.2.1 c (by omega) (by omega); omega
          have hb := par_bd hs ht c (by omega)
          by_cases c2 : A 10 c = n + 2
          · rw [if_pos ((pI_eq h2 hb (by omega)).mpr c2)]
            exact Or.inr ⟨rfl, c, by omega, by omega, e, c2⟩
          · rw [if_neg (fun x => c2 ((pI_eq h2 hb (by omega)).mp x))]; exact skip (Or.inr c2)
    · rw [if_pos (by omega)]
      exact Or.inl ⟨rfl, fun d a b c => by omega⟩
theorem M_isBare_e {A : Ab} {m : St} (hs : WFs A) (ht : WFt A) (hl14 : ∀ r, r < 21 → A 14 r ≤ 5) (h11 : ∀ r, r < 21 → 0 < A 14 r → A 11 r < 16) (hR : RM A m) {n : Nat} (hn : n < 16) : ∃ z, M_isBare m (nI n) = some z ∧ ((z = 1 ∧ Bare A n) ∨ (z = 0 ∧ ¬ Bare A n)) := by
  have hN := hs.1
  unfold M_isBare
  rw [li0]
  rcases bare2 hs ht hR (fun y8 => M_isBare_L43 m FU y8 (nI 0)) hn FU 0 (by omega) (by rw [FU_e]; omega) with ⟨a, b⟩ | ⟨a, d, b, x⟩
  · rw [a]
    obtain ⟨z, g1, g2⟩ := bare43 hl14 h11 hR hn FU 0 (by omega) (by rw [FU_e]; omega)
    refine ⟨z, g1, ?_⟩
    rcases g2 with ⟨e, f⟩ | ⟨e, r, f1, f2, f3, f4⟩
    · exact Or.inl ⟨e, fun c x y => b c (by omega) x y, fun r x y => f r (by omega) x y⟩
    · exact Or.inr ⟨e, fun q => q.2 r f2 f3 f4⟩
  · rw [a]
    exact ⟨_, rfl, Or.inr ⟨rfl, fun q => q.1 d x.1 x.2.1 x.2.2⟩⟩
/-- what must stay -/
def Req (A : Ab) (n : Nat) : Prop := n = 0 ∨ ∃ r, r < 21 ∧ 0 < A 14 r ∧ ∃ i, i ≤ dep A (A 11 r) ∧ chn A i (A 11 r) = n
/-- a part of a tree, with all that must stay -/
def Sub (A B : Ab) : Prop := (∀ a, a ≠ 10 → B a = A a) ∧ (∀ j, B 10 j = A 10 j ∨ B 10 j = 0) ∧ WFt B ∧ ∀ n, n < 16 → Req A n → B 10 n = A 10 n
theorem Sub.ec {A B : Ab} (h : Sub A B) : Ec A B := fun a j x _ => by rw [h.1 a (by omega)]
theorem Sub.rf {A : Ab} (ht : WFt A) : Sub A A := ⟨fun _ _ => rfl, fun _ => Or.inl rfl, ht, fun _ _ _ => rfl⟩
theorem WFr.in {A : Ab} (hs : WFs A) (hr : WFr A) {r : Nat} (h : r < 21) (h2 : 0 < A 14 r) : inT A (A 11 r) := by
  have := hr r h h2
  have hN := hs.1
  exact ⟨by omega, this.2.2.2⟩
theorem Sub.cut {A B : Ab} (hs : WFs A) (ht : WFt A) (hr : WFr A) (h : Sub A B) {n : Nat} (hn : n < 16) (h0 : n ≠ 0) (hb : Bare B n) : Sub A (up2 B 10 n 0) := by
  have hN := hs.1
  have hne : ∀ c, c < 16 → B 10 c ≠ n + 2 := fun c hc e => by
    by_cases z : c = 0
    · rw [z, h.2.2.1.1] at e; omega
    · have := (h.2.2.1.2.2.1 c hc (by omega)).1
      exact hb.1 c (by omega) this e
  refine ⟨fun a ha => ?_, fun j => ?_, ⟨?_, fun c hc h1 => ?_, fun c hc h2 => ?_, ?_⟩, fun c hc hq => ?_⟩
  · funext j; rw [up2_ne (Or.inl ha), h.1 a ha]
  · by_cases e : j = n
    · subst e; rw [up2_same]; exact Or.inr rfl
    · rw [up2_ne (Or.inr e)]; exact h.2.1 j
  · rw [up2_ne (by omega)]; exact h.2.2.1.1
  · by_cases e : c = n
    · subst e; rw [up2_same]; omega
    · rw [up2_ne (Or.inr e)]; exact h.2.2.1.2.1 c hc h1
  · by_cases e : c = n
    · subst e; rw [up2_same] at h2; omega
    · rw [up2_ne (Or.inr e)] at h2 ⊢
      obtain ⟨a, b, d, l, x⟩ := h.2.2.1.2.2.1 c hc h2
      have hne2 := hne c hc
      rw [up2_ne (a := 10) (by omega), up2_ne (by omega)]
      exact ⟨a, b, d, l, x⟩
  · obtain ⟨g, hg⟩ := h.2.2.1.2.2.2
    refine ⟨g, fun c hc h2 => ?_⟩
    by_cases e : c = n
    · subst e; rw [up2_same] at h2; omega
    · rw [up2_ne (Or.inr e)] at h2 ⊢
      exact hg c hc h2
  · by_cases e : c = n
    · subst e
      rcases hq with z | ⟨r, a, b, i, x, y⟩
      · exact absurd z h0
      · have hx := WFr.in hs hr a b
        cases i with
        | zero =>
          refine absurd y (hb.2 r a ?_ ∘ fun y => ?_)
          · rw [h.1 14 (by omega)]; exact b
          · rw [h.1 11 (by omega)]; exact y
        | succ i =>
          have hin := chn_inT hs ht hx (i := i) (by omega)
          have hz := (dep_le hs ht hx).2.2 i (by omega)
          have hk := h.2.2.2 _ hin.1 (Or.inr ⟨r, a, b, i, by omega, rfl⟩)
          rw [chn_succ] at y
          have := (inT_up hs ht hin hz).2.2.2.2.1
          rw [y] at this
          exact absurd (hk.trans this) (hne _ hin.1)
    · rw [up2_ne (Or.inr e)]; exact h.2.2.2 c hc hq
/-- where nothing is bare, just what must stay is there -/
theorem Sub.end {A B : Ab} (hs : WFs A) (ht : WFt A) (hr : WFr A) (h : Sub A B) (hb : ∀ n, 1 ≤ n → n < A 0 0 → B 10 n ≠ 0 → ¬ Bare B n) : ∀ n, n < 16 → B 10 n ≠ 0 → Req A n := by
  have hN := hs.1
  have key : ∀ e n, 16 ≤ e + dep A n → n < 16 → B 10 n ≠ 0 → Req A n := by
    intro e
    induction e with
    | zero =>
      intro n hd hn hB
      have := (dep_le hs ht (n := n) ⟨hn, fun z => hB (by rcases h.2.1 n with q | q; rw [q]; exact z; exact q)⟩).1
      omega
    | succ e ih =>
      intro n hd hn hB
      have hA : A 10 n ≠ 0 := fun z => hB (by rcases h.2.1 n with q | q; rw [q]; exact z; exact q)
      by_cases z : n = 0
      · exact Or.inl z
      · have hlt := inT_lt hs ht ⟨hn, hA⟩
        have hnb := hb n (by omega) hlt hB
        apply Classical.byContradiction
        intro hq
        apply hnb
        refine ⟨fun c c1 c2 c3 => ?_, fun r a b c => ?_⟩
        · rw [h.1 0 (by omega)] at c2
          have hc16 : c < 16 := by omega
          have hAc : A 10 c = n + 2 := by
            rcases h.2.1 c with q | q
            · rw [← q]; exact c3
            · omega
          obtain ⟨d1, d2, d3, d4⟩ := child_in hs ht hc16 (by omega) hAc
          rcases ih c (by omega) hc16 (by omega) with x | ⟨r, a, b, i, x, y⟩
          · omega
          · have hx := WFr.in hs hr a b
            have hne : i ≠ dep A (A 11 r) := fun w => by rw [w, (dep_le hs ht hx).2.1] at y; omega
            exact hq (Or.inr ⟨r, a, b, i + 1, by omega, by rw [chn_succ, y]; exact d2⟩)
        · rw [h.1 14 (by omega)] at b
          rw [h.1 11 (by omega)] at c
          exact hq (Or.inr ⟨r, a, b, 0, by omega, c⟩)
  intro n hn hB
  exact key 16 n (by omega) hn hB
