/-! ===== PHASE B: the tree ===== -/
theorem pigeon : ∀ (k m : Nat) (f : Nat → Nat), (∀ i, i < m → f i < k) → (∀ i j, i < j → j < m → f i ≠ f j) → m ≤ k := by
  intro k
  induction k with
  | zero =>
    intro m f h1 _
    rcases Nat.eq_zero_or_pos m with h | h
    · omega
    · exact absurd (h1 0 h) (by omega)
  | succ k ih =>
    intro m f h1 h2
    rcases Nat.eq_zero_or_pos m with h | h
    · omega
    · have := ih (m - 1) (fun i => if f i = k then f (m - 1) else f i) (fun i hi => by
        show (if f i = k then f (m - 1) else f i) < k
        by_cases e : f i = k
        · rw [if_pos e]
          have a := h1 (m - 1) (by omega)
          have b := h2 i (m - 1) hi (by omega)
          omega
        · rw [if_neg e]
          have a := h1 i (by omega)
          omega) (fun i j hij hj => by
        show (if f i = k then f (m - 1) else f i) ≠ (if f j = k then f (m - 1) else f j)
        by_cases e : f i = k
        · rw [if_pos e]
          by_cases e2 : f j = k
          · exact absurd (e.trans e2.symm) (h2 i j hij (by omega))
          · rw [if_neg e2]
            exact fun e3 => h2 j (m - 1) hj (by omega) e3.symm
        · rw [if_neg e]
          by_cases e2 : f j = k
          · rw [if_pos e2]
            exact h2 i (m - 1) (by omega) (by omega)
          · rw [if_neg e2]
            exact h2 i j hij (by omega))
      omega
def upn (A : Ab) (n : Nat) : Nat := A 10 n - 2
def chn (A : Ab) : Nat → Nat → Nat
  | 0, n => n
  | i + 1, n => chn A i (upn A n)
def dpF (A : Ab) : Nat → Nat → Nat
  | 0, _ => 0
  | i + 1, n => if n = 0 then 0 else dpF A i (upn A n) + 1
/-- the depth of a node of the tree -/
def dep (A : Ab) (n : Nat) : Nat := dpF A 16 n
/-- a node of the tree -/
def inT (A : Ab) (n : Nat) : Prop := n < 16 ∧ A 10 n ≠ 0
theorem inT_0 {A : Ab} (ht : WFt A) : inT A 0 := ⟨by omega, by rw [ht.1]; omega⟩
theorem inT_up {A : Ab} (hs : WFs A) (ht : WFt A) {n : Nat} (h : inT A n) (h0 : n ≠ 0) : 2 ≤ A 10 n ∧ n < A 0 0 ∧ inT A (upn A n) ∧ upn A n < A 0 0 ∧ A 10 n = upn A n + 2 ∧ ∃ l, Lk A n (upn A n) l := by
  have h1 := ht.2.1 n h.1 (by omega)
  have h2 : 2 ≤ A 10 n := by have := h.2; omega
  obtain ⟨a, b, c, d⟩ := ht.2.2.1 n h.1 h2
  have hN := hs.1
  exact ⟨h2, a, ⟨by show A 10 n - 2 < 16; omega, c⟩, b, by show A 10 n = A 10 n - 2 + 2; omega, d⟩
theorem inT_lt {A : Ab} (hs : WFs A) (ht : WFt A) {n : Nat} (h : inT A n) : n < A 0 0 := by
  by_cases h0 : n = 0
  · have := hs.1; omega
  · exact (inT_up hs ht h h0).2.1
/-- induction up the tree -/
theorem up_ind {A : Ab} (hs : WFs A) (ht : WFt A) {P : Nat → Prop} (h0 : P 0) (hp : ∀ n, inT A n → n ≠ 0 → inT A (upn A n) → P (upn A n) → P n) : ∀ n, inT A n → P n := by
  obtain ⟨h, hh⟩ := ht.2.2.2
  have key : ∀ (b n : Nat), h n < b → inT A n → P n := by
    intro b
    induction b with
    | zero => intro n hb; omega
    | succ b ih =>
      intro n hb hn
      by_cases e : n = 0
      · subst e; exact h0
      · obtain ⟨a1, a2, a3, -⟩ := inT_up hs ht hn e
        have := hh n hn.1 a1
        exact hp n hn e a3 (ih _ (by show h (A 10 n - 2) < b; omega) a3)
  exact fun n hn => key (h n + 1) n (by omega) hn
theorem chn_in {A : Ab} (hs : WFs A) (ht : WFt A) : ∀ (i n : Nat), inT A n → (∀ j, j < i → chn A j n ≠ 0) → inT A (chn A i n) := by
  intro i
  induction i with
  | zero => intro n h _; exact h
  | succ i ih =>
    intro n h h0
    have e : n ≠ 0 := h0 0 (by omega)
    exact ih (upn A n) (inT_up hs ht h e).2.2.1 (fun j hj => h0 (j + 1) (by omega))
theorem chn_succ {A : Ab} : ∀ (i n : Nat), chn A (i + 1) n = upn A (chn A i n) := by
  intro i
  induction i with
  | zero => intro n; rfl
  | succ i ih => intro n; exact ih (upn A n)
theorem dep_ex {A : Ab} (hs : WFs A) (ht : WFt A) : ∀ n, inT A n → ∃ d, chn A d n = 0 ∧ ∀ i, i < d → chn A i n ≠ 0 := by
  refine up_ind hs ht ⟨0, rfl, fun i hi => by omega⟩ (fun n hn h0 _ ⟨d, h1, h2⟩ => ⟨d + 1, h1, fun i hi => ?_⟩)
  cases i with
  | zero => exact h0
  | succ i => exact h2 i (by omega)
theorem dep_bd {A : Ab} (hs : WFs A) (ht : WFt A) {n d : Nat} (hn : inT A n) (h1 : ∀ i, i < d → chn A i n ≠ 0) : d ≤ 15 := by
  obtain ⟨h, hh⟩ := ht.2.2.2
  have step : ∀ i, i < d → h (chn A (i + 1) n) < h (chn A i n) := fun i hi => by
    have hi1 := chn_in hs ht i n hn (fun j hj => h1 j (by omega))
    rw [chn_succ]
    exact hh _ hi1.1 (inT_up hs ht hi1 (h1 i hi)).1
  have mono : ∀ k i, i + k < d + 1 → 0 < k → h (chn A (i + k) n) < h (chn A i n) := by
    intro k
    induction k with
    | zero => intro i _ h0; omega
    | succ k ih =>
      intro i hi _
      have a := step (i + k) (by omega)
      rcases Nat.eq_zero_or_pos k with e | e
      · subst e; exact a
      · have b := ih i (by omega) e
        rw [show i + (k + 1) = i + k + 1 by omega]
        omega
  have := pigeon 16 (d + 1) (fun i => chn A i n) (fun i hi => (chn_in hs ht i n hn (fun j hj => h1 j (by omega))).1) (fun i j hij hj e => by
    have := mono (j - i) i (by omega) (by omega)
    rw [show i + (j - i) = j by omega] at this
    have e : chn A i n = chn A j n := e
    rw [e] at this
    omega)
  omega
theorem dpF_e {A : Ab} : ∀ (k d n : Nat), d < k → chn A d n = 0 → (∀ i, i < d → chn A i n ≠ 0) → dpF A k n = d := by
  intro k
  induction k with
  | zero => intro d n h; omega
  | succ k ih =>
    intro d n hk h0 h1
    rw [dpF]
    cases d with
    | zero => rw [if_pos (show n = 0 from h0)]
    | succ d =>
      rw [if_neg (show n ≠ 0 from h1 0 (by omega)), ih d (upn A n) (by omega) h0 (fun i hi => h1 (i + 1) (by omega))]
theorem dep_0 {A : Ab} : dep A 0 = 0 := rfl
theorem dep_le {A : Ab} (hs : WFs A) (ht : WFt A) {n : Nat} (hn : inT A n) : dep A n ≤ 15 ∧ chn A (dep A n) n = 0 ∧ ∀ i, i < dep A n → chn A i n ≠ 0 := by
  obtain ⟨d, h1, h2⟩ := dep_ex hs ht n hn
  have hd := dep_bd hs ht hn h2
  have : dep A n = d := dpF_e 16 d n (by omega) h1 h2
  rw [this]
  exact ⟨hd, h1, h2⟩
theorem dep_up {A : Ab} (hs : WFs A) (ht : WFt A) {n : Nat} (hn : inT A n) (h0 : n ≠ 0) : dep A n = dep A (upn A n) + 1 := by
  obtain ⟨-, -, hu, -⟩ := inT_up hs ht hn h0
  obtain ⟨a1, a2, a3⟩ := dep_le hs ht hu
  have hz : ∀ i, i < dep A (upn A n) + 1 → chn A i n ≠ 0 := fun i hi => by
    cases i with
    | zero => exact h0
    | succ i => exact a3 i (by omega)
  have hd := dep_bd hs ht hn hz
  exact dpF_e 16 (dep A (upn A n) + 1) n (by omega) a2 hz
/-- the link between two nodes, if there is one -/
def lkF (A : Ab) (a b : Nat) : Nat → Nat
  | 0 => 0
  | l + 1 => if (A 1 l = a ∧ A 2 l = b) ∨ (A 1 l = b ∧ A 2 l = a) then l else lkF A a b l
def lnk (A : Ab) (a b : Nat) : Nat := lkF A a b (A 0 1)
theorem lkF_e {A : Ab} {a b l : Nat} (hs : WFs A) (h : Lk A a b l) : ∀ k, l < k → k ≤ A 0 1 → lkF A a b k = l := by
  intro k
  induction k with
  | zero => intro h; omega
  | succ k ih =>
    intro h1 h2
    rw [lkF]
    by_cases c : (A 1 k = a ∧ A 2 k = b) ∨ (A 1 k = b ∧ A 2 k = a)
    · rw [if_pos c]; exact hs.2.2.1 a b k l ⟨by omega, c⟩ h
    · rw [if_neg c]
      refine ih ?_ (by omega)
      rcases Nat.lt_or_ge l k with e | e
      · exact e
      · have : l = k := by omega
        subst this; exact absurd h.2 c
theorem lnk_e {A : Ab} {a b l : Nat} (hs : WFs A) (h : Lk A a b l) : lnk A a b = l := lkF_e hs h (A 0 1) h.1 (Nat.le_refl _)
theorem Lk.symm {A : Ab} {a b l : Nat} (h : Lk A a b l) : Lk A b a l := ⟨h.1, h.2.elim Or.inr Or.inl⟩
theorem M_linkAt_some {A : Ab} {m : St} (hs : WFs A) (h : RM A m) {a b l : Nat} (ha : a < 16) (hb : b < 16) (hl : Lk A a b l) : M_linkAt m (nI a) (nI b) = some (nI l) := by
  have hN := hs.1
  have key : ∀ (n i : Nat), i ≤ l → l < i + n → M_linkAt_L2 m n (nI a) (nI b) (nI i) = some (nI l) := by
    intro n
    induction n with
    | zero => intro i h1 h2; omega
    | succ n ih =>
      intro i h1 h2
      have hiL : i < A 0 1 := by have := hl.1; omega
      obtain ⟨w1, w2, w3, -⟩ := hs.2.1 i hiL
      rw [M_linkAt_L2]
      unfold M_linkAt_B2
      have e0 : M_end m (nI i) 0 = some (nI (A 1 i)) := M_end_e hs h hiL (w := 0) (by omega)
      have e1 : M_end m (nI i) 1 = some (nI (A 2 i)) := M_end_e hs h hiL (w := 1) (by omega)
      rw [rd_at 1 li1 (by omega) (by omega), b1_some, show gt m 2 1 = nI (A 0 1) from h.1.1.2.1, if_neg (fun e => by have := (nI_leI (by omega) (by omega)).mp e; omega), e0, b1_some]
      have hJ : (¬ Lk A a b i → M_linkAt_L2 m n (nI a) (nI b) (nI i + 1) = some (nI l)) := fun hn => by
        rw [nI_1]
        exact ih (i + 1) (by
          rcases Nat.lt_or_ge i l with e | e
          · omega
          · have : i = l := by omega
            subst this; exact absurd hl hn) (by omega)
      have hlI : Lk A a b i → nI i = nI l := fun e => by rw [hs.2.2.1 a b i l e hl]
      have eJ : M_linkAt_J32 (M_linkAt_L2 m n) (nI a) (nI b) (nI i) m = some (nI l) ∨ (A 1 i = a ∧ A 2 i = b) := by
        by_cases c1 : A 1 i = a ∧ A 2 i = b
        · exact Or.inr c1
        · left
          unfold M_linkAt_J32
          rw [e0, b1_some]
          by_cases c2 : A 1 i = b
          · rw [if_pos (by rw [c2]), e1, b1_some]
            by_cases c3 : A 2 i = a
            · rw [if_pos (by rw [c3]), hlI ⟨hiL, Or.inr ⟨c2, c3⟩⟩]
            · rw [if_neg (fun e => c3 (nI_inj (by omega) (by omega) e))]
              exact hJ (fun e => by rcases e.2 with e | e; exact c1 e; exact c3 e.2)
          · rw [if_neg (fun e => c2 (nI_inj (by omega) (by omega) e))]
            exact hJ (fun e => by rcases e.2 with e | e; exact c1 e; exact c2 e.1)
      by_cases c1 : A 1 i = a
      · rw [if_pos (by rw [c1]), e1, b1_some]
        by_cases c2 : A 2 i = b
        · rw [if_pos (by rw [c2]), hlI ⟨hiL, Or.inl ⟨c1, c2⟩⟩]
        · rw [if_neg (fun e => c2 (nI_inj (by omega) (by omega) e))]
          exact eJ.elim id (fun e => absurd e.2 c2)
      · rw [if_neg (fun e => c1 (nI_inj (by omega) (by omega) e))]
        exact eJ.elim id (fun e => absurd e.1 c1)
  unfold M_linkAt
  exact key FU 0 (by omega) (by rw [FU_e]; have := hl.1; omega)
theorem M_linkAt_none {A : Ab} {m : St} (hs : WFs A) (h : RM A m) {a b : Nat} (ha : a < 16) (hb : b < 16) (hl : ∀ l, ¬ Lk A a b l) : M_linkAt m (nI a) (nI b) = some (-2) := by
  have hN := hs.1
  have key : ∀ (n i : Nat), i ≤ A 0 1 → A 0 1 < i + n → M_linkAt_L2 m n (nI a) (nI b) (nI i) = some (-2) := by
    intro n
    induction n with
    | zero => intro i h1 h2; omega
    | succ n ih =>
      intro i h1 h2
      rw [M_linkAt_L2]
      unfold M_linkAt_B2
      rw [rd_at 1 li1 (by omega) (by omega), b1_some, show gt m 2 1 = nI (A 0 1) from h.1.1.2.1]
      by_cases hiL : i < A 0 1
      · obtain ⟨w1, w2, w3, -⟩ := hs.2.1 i hiL
        have e0 : M_end m (nI i) 0 = some (nI (A 1 i)) := M_end_e hs h hiL (w := 0) (by omega)
        have e1 : M_end m (nI i) 1 = some (nI (A 2 i)) := M_end_e hs h hiL (w := 1) (by omega)
        rw [if_neg (fun e => by have := (nI_leI (by omega) (by omega)).mp e; omega), e0, b1_some]
        have hJ : M_linkAt_L2 m n (nI a) (nI b) (nI i + 1) = some (-2) := by
          rw [nI_1]; exact ih (i + 1) (by omega) (by omega)
        have eJ : M_linkAt_J32 (M_linkAt_L2 m n) (nI a) (nI b) (nI i) m = some (-2) := by
          unfold M_linkAt_J32
          rw [e0, b1_some]
          by_cases c2 : A 1 i = b
          · rw [if_pos (by rw [c2]), e1, b1_some]
            by_cases c3 : A 2 i = a
            · exact absurd ⟨hiL, Or.inr ⟨c2, c3⟩⟩ (hl i)
            · rw [if_neg (fun e => c3 (nI_inj (by omega) (by omega) e))]
              exact hJ
          · rw [if_neg (fun e => c2 (nI_inj (by omega) (by omega) e))]
            exact hJ
        by_cases c1 : A 1 i = a
        · rw [if_pos (by rw [c1]), e1, b1_some]
          by_cases c2 : A 2 i = b
          · exact absurd ⟨hiL, Or.inl ⟨c1, c2⟩⟩ (hl i)
          · rw [if_neg (fun e => c2 (nI_inj (by omega) (by omega) e))]
            exact eJ
        · rw [if_neg (fun e => c1 (nI_inj (by omega) (by omega) e))]
          exact eJ
      · rw [if_pos ((nI_leI (by omega) (by omega)).mpr (by omega))]
  unfold M_linkAt
  exact key FU 0 (by omega) (by rw [FU_e]; omega)
