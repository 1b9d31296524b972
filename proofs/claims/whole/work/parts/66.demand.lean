/-! ===== PHASE B: demands, as they must be ===== -/
def mx (g : Nat → Nat) : Nat → Nat
  | 0 => 0
  | r + 1 => max (mx g r) (g r)
theorem mx_le {g : Nat → Nat} {b : Nat} : ∀ k, (∀ i, i < k → g i ≤ b) → mx g k ≤ b := by
  intro k
  induction k with
  | zero => intro _; exact Nat.zero_le _
  | succ k ih =>
    intro h
    have := ih (fun i hi => h i (by omega))
    have := h k (by omega)
    rw [mx]; omega
theorem mx_ge {g : Nat → Nat} : ∀ k i, i < k → g i ≤ mx g k := by
  intro k
  induction k with
  | zero => intro i h; omega
  | succ k ih =>
    intro i h
    rw [mx]
    by_cases e : i = k
    · rw [e]; omega
    · have := ih i (by omega); omega
theorem mx_congr {g g2 : Nat → Nat} : ∀ k, (∀ i, i < k → g i = g2 i) → mx g k = mx g2 k := by
  intro k
  induction k with
  | zero => intro _; rfl
  | succ k ih => intro h; rw [mx, mx, ih (fun i hi => h i (by omega)), h k (by omega)]
theorem mx_add {g g2 : Nat → Nat} {n v : Nat} : ∀ k, n < k → (∀ i, i < k → i ≠ n → g2 i = g i) → g n = 0 → g2 n = v → mx g2 k = max (mx g k) v := by
  intro k
  induction k with
  | zero => intro h; omega
  | succ k ih =>
    intro h1 h2 h3 h4
    rw [mx, mx]
    by_cases e : n = k
    · subst e
      rw [mx_congr n (fun i hi => h2 i (by omega) (by omega)), h3, h4]
      omega
    · rw [ih (by omega) (fun i hi hn => h2 i (by omega) hn) h3 h4, h2 k (by omega) (by omega)]
      omega
theorem c0_congr {A D D2 : Ab} {n : Nat} : ∀ g, (∀ f, f < max g 1 → D 0 (4 * n + f) = D2 0 (4 * n + f)) → c0 A D n g = c0 A D2 n g := by
  intro g
  induction g with
  | zero => intro h; exact h 0 (by omega)
  | succ g ih => intro h; rw [c0, c0, ih (fun f hf => h f (by omega)), h g (by omega)]
theorem cs_congr {A D D2 : Ab} {n : Nat} : ∀ g, (∀ f, f < g → D 0 (4 * n + f) = D2 0 (4 * n + f)) → cs A D n g = cs A D2 n g := by
  intro g
  induction g with
  | zero => intro h; rfl
  | succ g ih => intro h; rw [cs, cs, ih (fun f hf => h f (by omega)), h g (by omega)]
theorem dn_congr {A D D2 : Ab} {n f : Nat} (hs : WFs A) (hf : f < A 0 2) (h : ∀ g, g < A 0 2 → D 0 (4 * n + g) = D2 0 (4 * n + g)) : dn A D n f = dn A D2 n f := by
  unfold dn
  have := hs.1
  rw [c0_congr _ (fun g hg => h g (by omega)), h f hf]
theorem as_congr {A D D2 : Ab} {n f : Nat} (hs : WFs A) (hf : f < A 0 2) (h : ∀ g, g < A 0 2 → D 0 (4 * n + g) = D2 0 (4 * n + g)) : as_ A D n f = as_ A D2 n f := by
  unfold as_
  rw [dn_congr hs hf h]
theorem sl_congr {A D D2 : Ab} {n : Nat} (hs : WFs A) (h : ∀ g, g < A 0 2 → D 0 (4 * n + g) = D2 0 (4 * n + g)) : ∀ f, f ≤ A 0 2 → sl A D n f = sl A D2 n f := by
  intro f
  induction f with
  | zero => intro _; rfl
  | succ f ih => intro hf; rw [sl, sl, ih (by omega), as_congr hs (by omega) h]
/-- what the receivers at a node want in a format -/
def ow (A : Ab) (n f : Nat) : Nat := mx (fun r => if 0 < A 14 r ∧ A 11 r = n ∧ A 12 r = f then A 14 r else 0) 21
/-- what comes together at a node (its converters not yet counted), nodes e deep below it -/
def arE (A : Ab) : Nat → Nat → Nat → Nat
  | 0, n, f => ow A n f
  | e + 1, n, f => max (ow A n f) (mx (fun c => if c ≠ 0 ∧ A 10 c = n + 2 then as_ A (fun _ j => arE A e (j / 4) (j % 4)) c f else 0) 16)
def arD (A : Ab) : Ab := fun _ j => if A 10 (j / 4) = 0 then 0 else arE A (16 - dep A (j / 4)) (j / 4) (j % 4)
theorem child_in {A : Ab} (hs : WFs A) (ht : WFt A) {c n : Nat} (hc : c < 16) (h0 : c ≠ 0) (h : A 10 c = n + 2) : inT A c ∧ upn A c = n ∧ inT A n ∧ dep A c = dep A n + 1 := by
  have hin : inT A c := ⟨hc, by omega⟩
  have hu : upn A c = n := by show A 10 c - 2 = n; omega
  have h3 := (inT_up hs ht hin h0).2.2.1
  rw [hu] at h3
  have := dep_up hs ht hin h0
  rw [hu] at this
  exact ⟨hin, hu, h3, this⟩
theorem arD_e {A : Ab} (hs : WFs A) (ht : WFt A) {n f : Nat} (hn : inT A n) (hf : f < A 0 2) : arD A 0 (4 * n + f) = max (ow A n f) (mx (fun c => if c ≠ 0 ∧ A 10 c = n + 2 then as_ A (arD A) c f else 0) 16) := by
  have hN := hs.1
  have hd := (dep_le hs ht hn).1
  unfold arD
  rw [show (4 * n + f) / 4 = n by omega, show (4 * n + f) % 4 = f by omega, if_neg hn.2, show 16 - dep A n = (15 - dep A n) + 1 by omega, arE]
  refine congrArg (max (ow A n f)) (mx_congr 16 (fun c hc => ?_))
  by_cases p : c ≠ 0 ∧ A 10 c = n + 2
  · rw [if_pos p, if_pos p]
    obtain ⟨q1, q2, q3, q4⟩ := child_in hs ht hc p.1 p.2
    refine as_congr hs hf (fun g hg => ?_)
    show arE A (15 - dep A n) ((4 * c + g) / 4) ((4 * c + g) % 4) = if A 10 ((4 * c + g) / 4) = 0 then 0 else arE A (16 - dep A ((4 * c + g) / 4)) ((4 * c + g) / 4) ((4 * c + g) % 4)
    rw [show (4 * c + g) / 4 = c by omega, if_neg q1.2, q4, show 16 - (dep A n + 1) = 15 - dep A n by omega]
  · rw [if_neg p, if_neg p]
theorem ow_le {A : Ab} (hr : WFr A) {n f : Nat} : ow A n f ≤ A 0 3 := mx_le 21 (fun r hr2 => by
  show (if 0 < A 14 r ∧ A 11 r = n ∧ A 12 r = f then A 14 r else 0) ≤ A 0 3
  by_cases c : 0 < A 14 r ∧ A 11 r = n ∧ A 12 r = f
  · rw [if_pos c]; exact (hr r hr2 c.1).2.2.1
  · rw [if_neg c]; exact Nat.zero_le _)
theorem as_le {A D : Ab} (hs : WFs A) {b n f : Nat} (hf : f < A 0 2) (h : ∀ g, g < A 0 2 → D 0 (4 * n + g) ≤ b) : as_ A D n f ≤ b ∧ dn A D n f ≤ b := by
  have hN := hs.1
  have h1 : dn A D n f ≤ b := by
    unfold dn
    by_cases z : f = 0
    · rw [if_pos z]; exact c0_bd _ (fun g hg => h g (by omega))
    · rw [if_neg z]; exact h f hf
  refine ⟨?_, h1⟩
  unfold as_
  split
  · exact Nat.zero_le _
  · exact h1
theorem arE_le {A : Ab} (hs : WFs A) (hr : WFr A) : ∀ e n f, f < A 0 2 → arE A e n f ≤ A 0 3 := by
  intro e
  induction e with
  | zero => intro n f hf; exact ow_le hr
  | succ e ih =>
    intro n f hf
    have hN := hs.1
    rw [arE]
    have h1 := ow_le hr (n := n) (f := f)
    have h2 := mx_le (g := fun c => if c ≠ 0 ∧ A 10 c = n + 2 then as_ A (fun _ j => arE A e (j / 4) (j % 4)) c f else 0) (b := A 0 3) 16 (fun c hc => by
      show (if c ≠ 0 ∧ A 10 c = n + 2 then as_ A (fun _ j => arE A e (j / 4) (j % 4)) c f else 0) ≤ A 0 3
      split
      · exact (as_le hs hf (fun g hg => by
          show arE A e ((4 * c + g) / 4) ((4 * c + g) % 4) ≤ A 0 3
          rw [show (4 * c + g) % 4 = g by omega]
          exact ih _ g hg)).1
      · exact Nat.zero_le _)
    omega
theorem arD_le {A : Ab} (hs : WFs A) (hr : WFr A) {n f : Nat} (hf : f < A 0 2) : arD A 0 (4 * n + f) ≤ A 0 3 := by
  have hN := hs.1
  unfold arD
  split
  · exact Nat.zero_le _
  · rw [show (4 * n + f) % 4 = f by omega]; exact arE_le hs hr _ _ _ hf
theorem ow_out {A : Ab} (hr : WFr A) {n f : Nat} (h : A 10 n = 0 ∨ A 0 2 ≤ f) : ow A n f = 0 := by
  have : ow A n f ≤ 0 := mx_le 21 (fun r hr2 => by
    show (if 0 < A 14 r ∧ A 11 r = n ∧ A 12 r = f then A 14 r else 0) ≤ 0
    by_cases c : 0 < A 14 r ∧ A 11 r = n ∧ A 12 r = f
    · obtain ⟨q1, q2, q3, q4⟩ := hr r hr2 c.1
      rw [c.2.1] at q4
      have := c.2.2
      omega
    · rw [if_neg c]; exact Nat.zero_le _)
  omega
/-- two nodes of the tree don't share their uplink -/
theorem uplink_inj {A : Ab} (hs : WFs A) (ht : WFt A) {a b : Nat} (ha : inT A a) (hb : inT A b) (a0 : a ≠ 0) (b0 : b ≠ 0) (h : lnk A a (upn A a) = lnk A b (upn A b)) : a = b := by
  obtain ⟨p1, -, -, -, -, l, hl⟩ := inT_up hs ht ha a0
  obtain ⟨p2, -, -, -, -, l2, hl2⟩ := inT_up hs ht hb b0
  rw [lnk_e hs hl, lnk_e hs hl2] at h
  subst h
  obtain ⟨hh, hhh⟩ := ht.2.2.2
  have r1 : hh (upn A a) < hh a := hhh a ha.1 p1
  have r2 : hh (upn A b) < hh b := hhh b hb.1 p2
  have hw := hs.2.1 l hl.1
  by_cases e : a = b
  · exact e
  · exfalso
    have x1 : a = upn A b ∧ b = upn A a := by
      rcases hl.2 with q | q <;> rcases hl2.2 with q2 | q2
      · exact absurd (q.1.symm.trans q2.1) e
      · exact ⟨q.1.symm.trans q2.1, q2.2.symm.trans q.2⟩
      · exact ⟨q.2.symm.trans q2.2, q2.1.symm.trans q.1⟩
      · exact absurd (q.2.symm.trans q2.2) e
    rw [← x1.1] at r2
    rw [← x1.2] at r1
    omega
