/-! ===== PHASE B: the cheapest first, and ways ===== -/
/-- the first of the cheapest of u < k, and its cost; 99 and F if none costs less than F -/
def am (c : Nat → Nat) (F : Nat) : Nat → Nat × Nat
  | 0 => (99, F)
  | u + 1 => if c u < (am c F u).2 then (u, c u) else am c F u
theorem am_sp {c : Nat → Nat} {F : Nat} : ∀ k, ((am c F k) = (99, F) ∧ ∀ u, u < k → F ≤ c u) ∨ ((am c F k).1 < k ∧ (am c F k).2 = c (am c F k).1 ∧ (am c F k).2 < F ∧ (∀ u, u < k → (am c F k).2 ≤ c u) ∧ ∀ u, u < (am c F k).1 → (am c F k).2 < c u) := by
  intro k
  induction k with
  | zero => exact Or.inl ⟨rfl, fun u hu => by omega⟩
  | succ k ih =>
    rw [am]
    by_cases e : c k < (am c F k).2
    · rw [if_pos e]
      right
      rcases ih with ⟨h1, h2⟩ | ⟨h1, h2, h3, h4, h5⟩
      · rw [h1] at e
        have e : c k < F := e
        refine ⟨by show k < k + 1; omega, rfl, e, fun u hu => ?_, fun u hu => ?_⟩
        · by_cases d : u = k
          · rw [d]; exact Nat.le_refl _
          · have := h2 u (by omega); show c k ≤ c u; omega
        · have hu : u < k := hu
          have := h2 u hu; show c k < c u; omega
      · refine ⟨by show k < k + 1; omega, rfl, by show c k < F; omega, fun u hu => ?_, fun u hu => ?_⟩
        · by_cases d : u = k
          · rw [d]; exact Nat.le_refl _
          · have := h4 u (by omega); show c k ≤ c u; omega
        · have hu : u < k := hu
          have := h4 u hu; show c k < c u; omega
    · rw [if_neg e]
      rcases ih with ⟨h1, h2⟩ | ⟨h1, h2, h3, h4, h5⟩
      · left
        refine ⟨h1, fun u hu => ?_⟩
        by_cases d : u = k
        · rw [h1] at e; have e : ¬ c k < F := e; rw [d]; omega
        · exact h2 u (by omega)
      · right
        refine ⟨by omega, h2, h3, fun u hu => ?_, h5⟩
        by_cases d : u = k
        · rw [d]; omega
        · exact h4 u (by omega)
theorem am_eq {c : Nat → Nat} {F k u : Nat} (h1 : u < k) (h2 : c u < F) (h3 : ∀ w, w < k → c u ≤ c w) (h4 : ∀ w, w < u → c u < c w) : am c F k = (u, c u) := by
  rcases am_sp (c := c) (F := F) k with ⟨a, b⟩ | ⟨a1, a2, a3, a4, a5⟩
  · have := b u h1; omega
  · have e : (am c F k).1 = u := by
      rcases Nat.lt_trichotomy (am c F k).1 u with q | q | q
      · have := h4 _ q
        have := a4 u h1
        omega
      · exact q
      · have := a5 u q
        have := h3 _ a1
        omega
    have : am c F k = ((am c F k).1, (am c F k).2) := rfl
    rw [this, a2, e]
/-- two ways to count that order alike -/
theorem am_iso {c d : Nat → Nat} {F G k : Nat} (h1 : ∀ u, u < k → (c u < F ↔ d u < G)) (h2 : ∀ u w, u < k → w < k → c u < F → c w < F → (c u < c w ↔ d u < d w)) : (am c F k).1 = (am d G k).1 := by
  rcases am_sp (c := c) (F := F) k with ⟨a, b⟩ | ⟨a1, a2, a3, a4, a5⟩
  · rcases am_sp (c := d) (F := G) k with ⟨x, y⟩ | ⟨x1, x2, x3, x4, x5⟩
    · rw [a, x]
    · have := (h1 _ x1).mpr (by omega)
      have := b _ x1
      omega
  · have hlt : c (am c F k).1 < F := by omega
    have := am_eq (c := d) (F := G) (k := k) (u := (am c F k).1) a1 ((h1 _ a1).mp hlt) (fun w hw => by
      by_cases q : c w < F
      · apply Classical.byContradiction
        intro n
        have := (h2 w _ hw a1 q hlt).mpr (by omega)
        have := a4 w hw
        omega
      · have : ¬ d w < G := fun z => q ((h1 w hw).mpr z)
        have := (h1 _ a1).mp hlt
        omega) (fun w hw => by
      have hwk : w < k := by omega
      by_cases q : c w < F
      · exact (h2 _ w a1 hwk hlt q).mp (by have := a5 w hw; omega)
      · have : ¬ d w < G := fun z => q ((h1 w hwk).mpr z)
        have := (h1 _ a1).mp hlt
        omega)
    rw [this]
/-- how many of 1..n cost less than y -/
def lw (X : Nat → Nat) (y : Nat) : Nat → Nat
  | 0 => 0
  | n + 1 => lw X y n + if X (n + 1) < y then 1 else 0
theorem lw_mono {X : Nat → Nat} {y z : Nat} (h : y ≤ z) {b : Nat} (hb1 : 1 ≤ b) (hb : ¬ X b < y) (hb2 : X b < z) : ∀ n, lw X y n ≤ lw X z n ∧ (b ≤ n → lw X y n < lw X z n) := by
  intro n
  induction n with
  | zero => exact ⟨Nat.le_refl _, fun h => by omega⟩
  | succ n ih =>
    rw [lw, lw]
    by_cases e : b = n + 1
    · rw [← e, if_neg hb, if_pos hb2]; omega
    · refine ⟨?_, fun q => ?_⟩
      · have := ih.1
        split <;> split <;> omega
      · have := ih.2 (by omega)
        split <;> split <;> omega
theorem lw_bd {X : Nat → Nat} {y b : Nat} (hb1 : 1 ≤ b) (hb : ¬ X b < y) : ∀ n, lw X y n ≤ n ∧ (b ≤ n → lw X y n + 1 ≤ n) := by
  intro n
  induction n with
  | zero => exact ⟨Nat.le_refl _, fun h => by omega⟩
  | succ n ih =>
    rw [lw]
    by_cases e : b = n + 1
    · rw [← e, if_neg hb]; omega
    · refine ⟨?_, fun q => ?_⟩
      · split <;> omega
      · have := ih.2 (by omega)
        split <;> omega
theorem lw_n (X : Nat → Nat) (y : Nat) : ∀ n, lw X y n ≤ n := by
  intro n
  induction n with
  | zero => exact Nat.le_refl _
  | succ n ih => rw [lw]; split <;> omega
/-- settled costs: so many hops, so much delay -/
theorem dh_bd {E : Nat → Nat → Nat → Prop} {t F q : Nat} {X : Nat → Nat} (hE : ∀ v b c, E v b c → 1 ≤ b ∧ b < 16 ∧ ∃ d, d ≤ 99 ∧ c = q * d + 1) (hs : Snd E t F X) (hc : Cls E X) : ∀ s v, X v ≤ s → X v < F → ∃ D H, X v = q * D + H ∧ H ≤ lw X (X v) 15 ∧ D ≤ 99 * lw X (X v) 15 := by
  intro s
  induction s with
  | zero => intro v h1 h2; exact ⟨0, 0, by omega, by omega, by omega⟩
  | succ s ih =>
    intro v h1 h2
    rcases hs.2 v h2 with z | ⟨b, c, x, y⟩
    · rw [z, hs.1]; exact ⟨0, 0, by omega, by omega, by omega⟩
    · obtain ⟨b1, b2, d, d1, d2⟩ := hE _ _ _ x
      have h3 := hc v b c x
      obtain ⟨D, H, e1, e2, e3⟩ := ih b (by omega) (by omega)
      have hl := (lw_mono (X := X) (y := X b) (z := X v) (by omega) b1 (by omega) (by omega) 15).2 (by omega)
      refine ⟨D + d, H + 1, ?_, by omega, by omega⟩
      have : X v = X b + c := by omega
      rw [this, e1, d2, Nat.mul_add]; omega
