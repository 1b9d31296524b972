/-! ===== PHASE B: asksFrom whole; the specification of demands ===== -/
/-- a node's demands once its converters are counted, and what it asks -/
def dn (A D : Ab) (n f : Nat) : Nat := if f = 0 then c0 A D n (A 0 2) else D 0 (4 * n + f)
def as_ (A D : Ab) (n f : Nat) : Nat := if f ≠ 0 ∧ A 9 (4 * n + f) = 1 then 0 else dn A D n f
def sl (A D : Ab) (n : Nat) : Nat → Nat
  | 0 => 0
  | f + 1 => sl A D n f + rt A f (as_ A D n f)
theorem c0_bd {A D : Ab} {b : Nat} {n : Nat} : ∀ g, (∀ f, f < max g 1 → D 0 (4 * n + f) ≤ b) → c0 A D n g ≤ b := by
  intro g
  induction g with
  | zero => intro h; exact h 0 (by omega)
  | succ g ih =>
    intro h
    have := ih (fun f hf => h f (by omega))
    have := h g (by omega)
    rw [c0]
    split <;> omega
theorem M_asksFrom_e {A D0 : Ab} {m : St} (hs : WFs A) (ht : WFt A) (hc : WFc A) (hR : RM A m) (hS : RS D0 m) (hb : ∀ i, i < 64 → D0 0 i ≤ A 0 3) {n : Nat} (hn : inT A n) :
    ∃ (m2 : St) (D2 : Ab), M_asksFrom m (nI n) = some m2 ∧ RS D2 m2 ∧ Fr m m2 ∧ (∀ f, f < A 0 2 → D2 0 (4 * n + f) = dn A D0 n f) ∧ (n ≠ 0 → ∀ f, f < A 0 2 → D2 0 (4 * upn A n + f) = max (D0 0 (4 * upn A n + f)) (as_ A D0 n f)) ∧ (∀ j, j ≠ 4 * n → (n = 0 ∨ ¬ (4 * upn A n ≤ j ∧ j < 4 * upn A n + A 0 2)) → D2 0 j = D0 0 j) ∧ (∀ f, f < A 0 2 → D2 1 (4 * n + f) = as_ A D0 n f) ∧ (∀ j, ¬ (4 * n ≤ j ∧ j < 4 * n + A 0 2) → D2 1 j = D0 1 j) ∧ (n ≠ 0 → D2 2 (lnk A n (upn A n)) = sl A D0 n (A 0 2)) ∧ (∀ j, (n = 0 ∨ j ≠ lnk A n (upn A n)) → D2 2 j = D0 2 j) ∧ D2 3 n = D0 3 n + cs A D0 n (A 0 2) ∧ (∀ j, j ≠ n → D2 3 j = D0 3 j) := by
  have hN := hs.1
  have hn16 := hn.1
  have hb5 : ∀ i, i < 64 → D0 0 i ≤ 5 := fun i hi => by have := hb i hi; omega
  unfold M_asksFrom
  obtain ⟨m1, D1, e1, hS1, hF1, a1, a2, a3⟩ := asks1 hs hc hn16 hb5 (fun y11 q12 => M_asksFrom_L77 (fun y22 y23 q24 => if y22 = 0 then some q24 else b1 (M_up q24 y22) fun x26 => b1 (M_linkAt q24 y22 x26) fun x27 => b1 (wr 32 q24 9 x27 y23) fun q28 => M_asksFrom_L167 FU y22 0 q28) FU y11 0 0 q12) FU 1 D0 m hS hR (by omega) (by omega) (by rw [FU_e]; omega) rfl rfl (fun _ _ _ _ => rfl)
  have e1 := e1
  rw [show (1 : Int32) = nI 1 from rfl, e1]
  have hR1 := hF1.rm hR
  have hc0 : c0 A D0 n (A 0 2) ≤ A 0 3 := c0_bd _ (fun f hf => hb _ (by omega))
  have hb1 : ∀ i, i < 64 → D1 0 i ≤ A 0 3 := fun i hi => by
    by_cases c : i = 4 * n
    · rw [c, a1]; exact hc0
    · rw [a3 0 i (by omega) (by omega)]; exact hb i hi
  obtain ⟨m2, D2, e2, hS2, hF2, b1', b2'⟩ := asks2 hs hc hn16 hb1 (fun y22 y23 q24 => if y22 = 0 then some q24 else b1 (M_up q24 y22) fun x26 => b1 (M_linkAt q24 y22 x26) fun x27 => b1 (wr 32 q24 9 x27 y23) fun q28 => M_asksFrom_L167 FU y22 0 q28) FU 0 D1 m1 hS1 hR1 (by omega) (by rw [FU_e]; omega) (fun g hg => by omega) (fun a j _ => rfl)
  have e2 := e2
  rw [show nI (sr A D1 n 0) = 0 from rfl] at e2
  rw [show (0 : Int32) = nI 0 from rfl] at e2 ⊢
  rw [e2]
  have hR2 := hF2.rm hR1
  have hak : ∀ f, f < A 0 2 → ak A D1 n f = as_ A D0 n f := fun f hf => by
    unfold ak as_ dn
    by_cases c : f ≠ 0 ∧ A 9 (4 * n + f) = 1
    · rw [if_pos c, if_pos c]
    · rw [if_neg c, if_neg c]
      by_cases z : f = 0
      · rw [if_pos z, z]; exact a1
      · rw [if_neg z]; exact a3 0 _ (by omega) (by omega)
  have hsr : ∀ f, f ≤ A 0 2 → sr A D1 n f = sl A D0 n f := by
    intro f
    induction f with
    | zero => intro _; rfl
    | succ f ih => intro hf; rw [sr, sl, ih (by omega), hak f (by omega)]
  have hd : ∀ f, f < A 0 2 → D1 0 (4 * n + f) = dn A D0 n f := fun f hf => by
    unfold dn
    by_cases z : f = 0
    · rw [if_pos z, z]; exact a1
    · rw [if_neg z]; exact a3 0 _ (by omega) (by omega)
  by_cases h0 : n = 0
  · rw [if_pos (by rw [h0])]
    refine ⟨m2, D2, rfl, hS2, hF1.tr hF2, fun f hf => ?_, fun x => absurd h0 x, fun j hj _ => ?_, fun f hf => ?_, fun j hj => ?_, fun x => absurd h0 x, fun j _ => ?_, ?_, fun j hj => ?_⟩
    · rw [b2' 0 _ (by omega)]; exact hd f hf
    · rw [b2' 0 j (by omega)]; exact a3 0 j (by omega) (by omega)
    · rw [b1' f hf]; exact hak f hf
    · rw [b2' 1 j (by omega)]; exact a3 1 j (by omega) (by omega)
    · rw [b2' 2 j (by omega)]; exact a3 2 j (by omega) (by omega)
    · rw [b2' 3 n (by omega)]; exact a2
    · rw [b2' 3 j (by omega)]; exact a3 3 j (by omega) (by omega)
  · rw [if_neg (fun e => h0 (nI_inj (by omega) (by omega) e)), M_up_in hs ht hR2 hn h0, b1_some]
    obtain ⟨e3, hl⟩ := M_lk_in hs ht hR2 hn h0
    rw [e3, b1_some, wr_at (lnk A n (upn A n)) rfl (by omega) (by omega), b1_some]
    have hS3 := hS2.up (c := 2) (i := lnk A n (upn A n)) (v := sr A D1 n (A 0 2)) (by omega)
    have hF3 : Fr m2 (st m2 9 (lnk A n (upn A n)) (nI (sr A D1 n (A 0 2)))) := Fr.st (by omega)
    obtain ⟨hu2, -, hu, -⟩ := inT_up hs ht hn h0
    have hu16 := hu.1
    have hne : upn A n ≠ n := by
      obtain ⟨hh, hhh⟩ := ht.2.2.2
      have := hhh n hn16 hu2
      intro e
      have e : A 10 n - 2 = n := e
      rw [e] at this
      omega
    have hD3 : ∀ i, i < 64 → (up2 D2 2 (lnk A n (upn A n)) (sr A D1 n (A 0 2))) 0 i ≤ 5 := fun i hi => by
      rw [up2_ne (by omega), b2' 0 i (by omega)]
      have := hb1 i hi; omega
    have hD31 : ∀ f, f < A 0 2 → (up2 D2 2 (lnk A n (upn A n)) (sr A D1 n (A 0 2))) 1 (4 * n + f) ≤ 5 := fun f hf => by
      rw [up2_ne (by omega), b1' f hf]
      unfold ak
      split
      · omega
      · have := hb1 (4 * n + f) (by omega); omega
    obtain ⟨m4, D4, e4, hS4, hF4, d1, d2⟩ := asks3 hs ht hn h0 hD3 hD31 FU 0 _ _ hS3 (hF3.rm hR2) (by omega) (by rw [FU_e]; omega) (fun g hg => by omega) (fun _ _ _ => rfl)
    refine ⟨m4, D4, e4, hS4, ((hF1.tr hF2).tr hF3).tr hF4, fun f hf => ?_, fun _ f hf => ?_, fun j hj1 hj2 => ?_, fun f hf => ?_, fun j hj => ?_, fun _ => ?_, fun j hj => ?_, ?_, fun j hj => ?_⟩
    · rw [d2 0 _ (by omega), up2_ne (by omega), b2' 0 _ (by omega)]; exact hd f hf
    · rw [d1 f hf, up2_ne (by omega), up2_ne (by omega), b1' f hf, b2' 0 _ (by omega), a3 0 _ (by omega) (by omega), hak f hf]
    · rw [d2 0 _ (by omega), up2_ne (by omega), b2' 0 _ (by omega)]; exact a3 0 j (by omega) (by omega)
    · rw [d2 1 _ (by omega), up2_ne (by omega), b1' f hf]; exact hak f hf
    · rw [d2 1 _ (by omega), up2_ne (by omega), b2' 1 _ (by omega)]; exact a3 1 j (by omega) (by omega)
    · rw [d2 2 _ (by omega), up2_same]; exact hsr _ (Nat.le_refl _)
    · rw [d2 2 _ (by omega), up2_ne (by omega), b2' 2 _ (by omega)]; exact a3 2 j (by omega) (by omega)
    · rw [d2 3 _ (by omega), up2_ne (by omega), b2' 3 _ (by omega)]; exact a2
    · rw [d2 3 _ (by omega), up2_ne (by omega), b2' 3 _ (by omega)]; exact a3 3 j (by omega) (by omega)
