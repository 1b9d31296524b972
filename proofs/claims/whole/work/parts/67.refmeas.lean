/-! ===== PHASE B: the reference's measures ===== -/
/-- 1 if a node has asked already, at depth d and node x of the reference's walk -/
def prB (A : Ab) (d x c : Nat) : Nat := if c < 16 ∧ A 10 c ≠ 0 ∧ (d < dep A c ∨ (dep A c = d ∧ c < x)) then 1 else 0
def cm (A : Ab) (d x n f : Nat) : Nat := mx (fun c => if c ≠ 0 ∧ A 10 c = n + 2 ∧ prB A d x c = 1 then as_ A (arD A) c f else 0) 16
def MI (A D : Ab) (d x : Nat) : Prop := (∀ n f, n < 16 → f < 4 → D 0 (4 * n + f) = if A 10 n = 0 ∨ A 0 2 ≤ f then 0 else if prB A d x n = 1 then dn A (arD A) n f else max (ow A n f) (cm A d x n f)) ∧ (∀ n f, n < 16 → f < A 0 2 → D 1 (4 * n + f) = if prB A d x n = 1 then as_ A (arD A) n f else 0) ∧ ((∀ n, prB A d x n = 1 → n ≠ 0 → D 2 (lnk A n (upn A n)) = sl A (arD A) n (A 0 2)) ∧ ∀ l, l < 32 → (∀ n, prB A d x n = 1 → n ≠ 0 → lnk A n (upn A n) ≠ l) → D 2 l = 0) ∧ (∀ n, n < 16 → D 3 n = if prB A d x n = 1 then cs A (arD A) n (A 0 2) else 0)
theorem prB_iff {A : Ab} {d x c : Nat} : prB A d x c = 1 ↔ (inT A c ∧ (d < dep A c ∨ (dep A c = d ∧ c < x))) := by
  unfold prB inT
  by_cases h : c < 16 ∧ A 10 c ≠ 0 ∧ (d < dep A c ∨ (dep A c = d ∧ c < x))
  · rw [if_pos h]; exact ⟨fun _ => ⟨⟨h.1, h.2.1⟩, h.2.2⟩, fun _ => rfl⟩
  · rw [if_neg h]; exact ⟨fun e => by omega, fun e => absurd ⟨e.1.1, e.1.2, e.2⟩ h⟩
theorem MI_bd {A D : Ab} {d x : Nat} (hs : WFs A) (hr : WFr A) (h : MI A D d x) : ∀ i, i < 64 → D 0 i ≤ A 0 3 := by
  intro i hi
  have h1 := h.1 (i / 4) (i % 4) (by omega) (by omega)
  rw [show 4 * (i / 4) + i % 4 = i by omega] at h1
  rw [h1]
  by_cases c : A 10 (i / 4) = 0 ∨ A 0 2 ≤ i % 4
  · rw [if_pos c]; exact Nat.zero_le _
  · rw [if_neg c]
    have hf : i % 4 < A 0 2 := by omega
    have ha : ∀ n, as_ A (arD A) n (i % 4) ≤ A 0 3 ∧ dn A (arD A) n (i % 4) ≤ A 0 3 := fun n => as_le hs hf (fun g hg => arD_le hs hr hg)
    split
    · exact (ha _).2
    · have h2 := ow_le hr (n := i / 4) (f := i % 4)
      have h3 : cm A d x (i / 4) (i % 4) ≤ A 0 3 := mx_le 16 (fun c _ => by
        show (if c ≠ 0 ∧ A 10 c = i / 4 + 2 ∧ prB A d x c = 1 then as_ A (arD A) c (i % 4) else 0) ≤ A 0 3
        split
        · exact (ha _).1
        · exact Nat.zero_le _)
      omega
/-- at the turn of a node all below it have asked -/
theorem MI_here {A D : Ab} {d x : Nat} (hs : WFs A) (ht : WFt A) (h : MI A D d x) (hx : inT A x) (hd : dep A x = d) : ∀ g, g < A 0 2 → D 0 (4 * x + g) = arD A 0 (4 * x + g) := by
  intro g hg
  have hN := hs.1
  have hp : ¬ prB A d x x = 1 := fun e => by have := (prB_iff.mp e).2; omega
  rw [h.1 x g hx.1 (by omega), if_neg (fun e => e.elim hx.2 (by omega)), if_neg hp, arD_e hs ht hx hg]
  refine congrArg (max (ow A x g)) (mx_congr 16 (fun c hc => ?_))
  by_cases q : c ≠ 0 ∧ A 10 c = x + 2
  · obtain ⟨q1, q2, q3, q4⟩ := child_in hs ht hc q.1 q.2
    rw [if_pos q, if_pos ⟨q.1, q.2, prB_iff.mpr ⟨q1, by omega⟩⟩]
  · rw [if_neg q, if_neg (fun e => q ⟨e.1, e.2.1⟩)]
theorem prB_next {A : Ab} {d x c : Nat} (h : c ≠ x ∨ ¬ (inT A x ∧ dep A x = d)) : prB A d (x + 1) c = 1 ↔ prB A d x c = 1 := by
  rw [prB_iff, prB_iff]
  constructor
  · intro ⟨h1, h2⟩
    refine ⟨h1, ?_⟩
    rcases h2 with h2 | h2
    · exact Or.inl h2
    · by_cases e : c = x
      · subst e
        rcases h with h | h
        · exact absurd rfl h
        · exact absurd ⟨h1, h2.1⟩ h
      · exact Or.inr ⟨h2.1, by omega⟩
  · intro ⟨h1, h2⟩
    exact ⟨h1, h2.imp id (fun y => ⟨y.1, by omega⟩)⟩
theorem ite_iff {P Q : Prop} [Decidable P] [Decidable Q] {a b : Nat} (h : P ↔ Q) : (if P then a else b) = if Q then a else b := by
  by_cases c : P
  · rw [if_pos c, if_pos (h.mp c)]
  · rw [if_neg c, if_neg (fun e => c (h.mpr e))]
theorem MI_skip {A D : Ab} {d x : Nat} (h : MI A D d x) (hx : ¬ (inT A x ∧ dep A x = d)) : MI A D d (x + 1) := by
  have e : ∀ c, prB A d (x + 1) c = 1 ↔ prB A d x c = 1 := fun c => prB_next (Or.inr hx)
  refine ⟨fun n f hn hf => ?_, fun n f hn hf => ?_, ⟨fun n hp h0 => h.2.2.1.1 n ((e n).mp hp) h0, fun l hl hh => h.2.2.1.2 l hl (fun n hp h0 => hh n ((e n).mpr hp) h0)⟩, fun n hn => ?_⟩
  · rw [h.1 n f hn hf]
    have : cm A d (x + 1) n f = cm A d x n f := mx_congr 16 (fun c _ => ite_iff (by rw [e c]))
    rw [this]
    split
    · rfl
    · exact (ite_iff (e n)).symm
  · rw [h.2.1 n f hn hf]; exact (ite_iff (e n)).symm
  · rw [h.2.2.2 n hn]; exact (ite_iff (e n)).symm
theorem MI_step {A D D2 : Ab} {d x : Nat} (hs : WFs A) (ht : WFt A) (h : MI A D d x) (hx : inT A x) (hd : dep A x = d)
    (k1 : ∀ f, f < A 0 2 → D2 0 (4 * x + f) = dn A D x f) (k2 : x ≠ 0 → ∀ f, f < A 0 2 → D2 0 (4 * upn A x + f) = max (D 0 (4 * upn A x + f)) (as_ A D x f)) (k3 : ∀ j, j ≠ 4 * x → (x = 0 ∨ ¬ (4 * upn A x ≤ j ∧ j < 4 * upn A x + A 0 2)) → D2 0 j = D 0 j) (k4 : ∀ f, f < A 0 2 → D2 1 (4 * x + f) = as_ A D x f) (k5 : ∀ j, ¬ (4 * x ≤ j ∧ j < 4 * x + A 0 2) → D2 1 j = D 1 j) (k6 : x ≠ 0 → D2 2 (lnk A x (upn A x)) = sl A D x (A 0 2)) (k7 : ∀ j, (x = 0 ∨ j ≠ lnk A x (upn A x)) → D2 2 j = D 2 j) (k8 : D2 3 x = D 3 x + cs A D x (A 0 2)) (k9 : ∀ j, j ≠ x → D2 3 j = D 3 j) : MI A D2 d (x + 1) := by
  have hN := hs.1
  have hhere := MI_here hs ht h hx hd
  have hx16 := hx.1
  have pnow : prB A d (x + 1) x = 1 := prB_iff.mpr ⟨hx, Or.inr ⟨hd, by omega⟩⟩
  have pold : ¬ prB A d x x = 1 := fun e => by have := (prB_iff.mp e).2; omega
  have e : ∀ c, c ≠ x → (prB A d (x + 1) c = 1 ↔ prB A d x c = 1) := fun c hc => prB_next (Or.inl hc)
  refine ⟨fun n f hn hf => ?_, fun n f hn hf => ?_, ⟨fun n hp h0 => ?_, fun l hl hh => ?_⟩, fun n hn => ?_⟩
  · by_cases hnx : n = x
    · subst hnx
      by_cases hfF : f < A 0 2
      · rw [k1 f hfF, if_neg (fun y => y.elim hx.2 (by omega)), if_pos pnow, dn_congr hs hfF hhere]
      · rw [k3 (4 * n + f) (by omega) (by
          by_cases z : n = 0
          · exact Or.inl z
          · right
            intro y
            have hu : upn A n = n := by omega
            have := dep_up hs ht hx z
            rw [hu] at this
            omega), h.1 n f hn hf, if_pos (Or.inr (by omega)), if_pos (Or.inr (by omega))]
    · by_cases hp : x ≠ 0 ∧ n = upn A x ∧ f < A 0 2
      · obtain ⟨x0, hp, hfF⟩ := hp
        obtain ⟨u1, -, u2, -, u3, -⟩ := inT_up hs ht hx x0
        have hdu := dep_up hs ht hx x0
        have npr : ∀ y, ¬ prB A d y n = 1 := fun y ey => by
          have := (prB_iff.mp ey).2
          rw [hp] at this
          omega
        have hin : A 10 n ≠ 0 := by rw [hp]; exact u2.2
        have hcond : ¬ (A 10 n = 0 ∨ A 0 2 ≤ f) := fun y => y.elim hin (by omega)
        rw [hp, k2 x0 f hfF, ← hp, h.1 n f hn hf, if_neg hcond, if_neg hcond, if_neg (npr x), if_neg (npr (x + 1)), as_congr hs hfF hhere, Nat.max_assoc]
        refine congrArg (max (ow A n f)) (Eq.symm ?_)
        refine mx_add 16 hx16 (fun c _ hc => ite_iff (by rw [e c hc])) ?_ ?_
        · exact if_neg (fun y => pold y.2.2)
        · exact if_pos ⟨x0, by rw [hp]; exact u3, pnow⟩
      · rw [k3 (4 * n + f) (by omega) (by
          by_cases z : x = 0
          · exact Or.inl z
          · right
            intro y
            by_cases w : n = upn A x
            · exact hp ⟨z, w, by omega⟩
            · omega), h.1 n f hn hf]
        by_cases c1 : A 10 n = 0 ∨ A 0 2 ≤ f
        · rw [if_pos c1, if_pos c1]
        · rw [if_neg c1, if_neg c1]
          have hcm : cm A d (x + 1) n f = cm A d x n f := mx_congr 16 (fun c hc => by
            by_cases cx : c = x
            · subst cx
              have : ¬ (c ≠ 0 ∧ A 10 c = n + 2) := fun y => hp ⟨y.1, by show n = A 10 c - 2; omega, by omega⟩
              rw [if_neg (fun y => this ⟨y.1, y.2.1⟩), if_neg (fun y => this ⟨y.1, y.2.1⟩)]
            · exact ite_iff (by rw [e c cx]))
          rw [hcm]
          exact (ite_iff (e n hnx)).symm
  · by_cases hnx : n = x
    · subst hnx
      rw [k4 f hf, if_pos pnow, as_congr hs hf hhere]
    · rw [k5 _ (by omega), h.2.1 n f hn hf]; exact (ite_iff (e n hnx)).symm
  · by_cases hnx : n = x
    · subst hnx
      rw [k6 h0, sl_congr hs hhere _ (Nat.le_refl _)]
    · have hp2 := (e n hnx).mp hp
      rw [k7 _ (by
        by_cases z : x = 0
        · exact Or.inl z
        · exact Or.inr (fun y => hnx (uplink_inj hs ht (prB_iff.mp hp2).1 hx h0 z y)))]
      exact h.2.2.1.1 n hp2 h0
  · rw [k7 l (by
      by_cases z : x = 0
      · exact Or.inl z
      · exact Or.inr (fun y => hh x pnow z y.symm))]
    exact h.2.2.1.2 l hl (fun n hp h0 => by
      by_cases hnx : n = x
      · subst hnx; exact absurd hp pold
      · exact hh n ((e n hnx).mpr hp) h0)
  · by_cases hnx : n = x
    · subst hnx
      rw [k8, if_pos pnow, h.2.2.2 n hn, if_neg pold, Nat.zero_add, cs_congr _ hhere]
    · rw [k9 n hnx, h.2.2.2 n hn]; exact (ite_iff (e n hnx)).symm
theorem MI_down {A D : Ab} {d : Nat} (hs : WFs A) (ht : WFt A) (h : MI A D (d + 1) (A 0 0)) : MI A D d 0 := by
  have e : ∀ c, prB A d 0 c = 1 ↔ prB A (d + 1) (A 0 0) c = 1 := fun c => by
    rw [prB_iff, prB_iff]
    constructor
    · intro ⟨h1, h2⟩
      have := inT_lt hs ht h1
      exact ⟨h1, by omega⟩
    · intro ⟨h1, h2⟩
      exact ⟨h1, by omega⟩
  refine ⟨fun n f hn hf => ?_, fun n f hn hf => ?_, ⟨fun n hp h0 => h.2.2.1.1 n ((e n).mp hp) h0, fun l hl hh => h.2.2.1.2 l hl (fun n hp h0 => hh n ((e n).mpr hp) h0)⟩, fun n hn => ?_⟩
  · rw [h.1 n f hn hf]
    have : cm A d 0 n f = cm A (d + 1) (A 0 0) n f := mx_congr 16 (fun c _ => ite_iff (by rw [e c]))
    rw [this]
    split
    · rfl
    · exact (ite_iff (e n)).symm
  · rw [h.2.1 n f hn hf]; exact (ite_iff (e n)).symm
  · rw [h.2.2.2 n hn]; exact (ite_iff (e n)).symm
/-- the depths, as the reference lays them -/
def RD (A : Ab) (m : St) : Prop := ∀ n, n < A 0 0 → (A 10 n = 0 → gt m 11 n = -1) ∧ (A 10 n ≠ 0 → gt m 11 n = nI (dep A n))
theorem meas157 {A : Ab} (hs : WFs A) (ht : WFt A) (hc : WFc A) (hr : WFr A) (k : Int32 → St → Option St) {d : Nat} (hd16 : d ≤ 16) : ∀ (fu x : Nat) (D : Ab) (m : St), RS D m → RM A m → RD A m → MI A D d x → x ≤ A 0 0 → A 0 0 < x + fu → ∃ (m2 : St) (D2 : Ab), M_measures_L157 k fu (nI d) (nI x) m = k (nI d) m2 ∧ RS D2 m2 ∧ Fr m m2 ∧ MI A D2 d (A 0 0) := by
  have hN := hs.1
  intro fu
  induction fu with
  | zero => intro x D m _ _ _ _ h1 h2; omega
  | succ fu ih =>
    intro x D m hS hR hD hM h1 h2
    rw [M_measures_L157]; unfold M_measures_B157
    rw [rd_at 0 li0 (by omega) (by omega), b1_some, show gt m 2 0 = nI (A 0 0) from hR.1.1.1]
    by_cases e : x < A 0 0
    · rw [if_neg (fun c => by have := (nI_leI (by omega) (by omega)).mp c; omega), rd_at x rfl (by omega) (by omega), b1_some]
      by_cases hin : A 10 x = 0
      · rw [(hD x e).1 hin, if_neg (fun c => nI_neg1 (by omega) c.symm), nI_1]
        exact ih (x + 1) D m hS hR hD (MI_skip hM (fun y => y.1.2 hin)) (by omega) (by omega)
      · have hx : inT A x := ⟨by omega, hin⟩
        have hdl := (dep_le hs ht hx).1
        rw [(hD x e).2 hin]
        by_cases hd : dep A x = d
        · rw [if_pos (by rw [hd])]
          obtain ⟨m1, D1, g0, g1, g2, k1, k2, k3, k4, k5, k6, k7, k8, k9⟩ := M_asksFrom_e hs ht hc hR hS (MI_bd hs hr hM) hx
          rw [g0, b1_some, nI_1]
          have hD1 : RD A m1 := fun n hn => by
            have : gt m1 11 n = gt m 11 n := by rw [gt_e, gt_e, g2.1 11 (by omega)]
            rw [this]; exact hD n hn
          obtain ⟨m2, D2, y1, y2, y3, y4⟩ := ih (x + 1) D1 m1 g1 (g2.rm hR) hD1 (MI_step hs ht hM hx hd k1 k2 k3 k4 k5 k6 k7 k8 k9) (by omega) (by omega)
          exact ⟨m2, D2, y1, y2, g2.tr y3, y4⟩
        · rw [if_neg (fun c => hd (nI_inj (by omega) (by omega) c)), nI_1]
          exact ih (x + 1) D m hS hR hD (MI_skip hM (fun y => hd y.2)) (by omega) (by omega)
    · rw [if_pos ((nI_leI (by omega) (by omega)).mpr (by omega))]
      have : x = A 0 0 := by omega
      subst this
      exact ⟨m, D, rfl, hS, Fr.rf, hM⟩
theorem meas151 {A : Ab} (hs : WFs A) (ht : WFt A) (hc : WFc A) (hr : WFr A) : ∀ (d fu : Nat) (D : Ab) (m : St), RS D m → RM A m → RD A m → MI A D d 0 → d ≤ 16 → d + 1 < fu → ∃ (m2 : St) (D2 : Ab), M_measures_L151 fu (nI d) m = some m2 ∧ RS D2 m2 ∧ Fr m m2 ∧ MI A D2 0 (A 0 0) := by
  have hN := hs.1
  intro d
  induction d with
  | zero =>
    intro fu D m hS hR hD hM h1 h2
    obtain ⟨fu, rfl⟩ : ∃ g, fu = g + 2 := ⟨fu - 2, by omega⟩
    rw [M_measures_L151]; unfold M_measures_B151
    rw [if_neg (nI_pos (by omega))]
    obtain ⟨m2, D2, g1, g2, g3, g4⟩ := meas157 hs ht hc hr (fun y33 q34 => M_measures_L151 (fu + 1) (y33 + -1) q34) (by omega) FU 0 D m hS hR hD hM (by omega) (by rw [FU_e]; omega)
    refine ⟨m2, D2, ?_, g2, g3, g4⟩
    rw [show (0 : Int32) = nI 0 from rfl] at *
    rw [g1, M_measures_L151]; unfold M_measures_B151
    rw [if_pos (by decide)]
  | succ d ih =>
    intro fu D m hS hR hD hM h1 h2
    obtain ⟨fu, rfl⟩ : ∃ g, fu = g + 1 := ⟨fu - 1, by omega⟩
    rw [M_measures_L151]; unfold M_measures_B151
    rw [if_neg (nI_pos (by omega))]
    obtain ⟨m1, D1, g1, g2, g3, g4⟩ := meas157 hs ht hc hr (fun y33 q34 => M_measures_L151 fu (y33 + -1) q34) h1 FU 0 D m hS hR hD hM (by omega) (by rw [FU_e]; omega)
    rw [show (0 : Int32) = nI 0 from rfl] at *
    rw [g1]
    show ∃ (m2 : St) (D2 : Ab), M_measures_L151 fu (nI (d + 1) + -1) m1 = some m2 ∧ _
    rw [pk_m1]
    have hD1 : RD A m1 := fun n hn => by
      have : gt m1 11 n = gt m 11 n := by rw [gt_e, gt_e, g3.1 11 (by omega)]
      rw [this]; exact hD n hn
    obtain ⟨m2, D2, y1, y2, y3, y4⟩ := ih fu D1 m1 g2 (g3.rm hR) hD1 (MI_down hs ht g4) (by omega) (by omega)
    exact ⟨m2, D2, y1, y2, g3.tr y3, y4⟩
