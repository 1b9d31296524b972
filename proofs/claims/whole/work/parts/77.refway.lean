/-! ===== PHASE B: the way, whole, in the reference ===== -/
def xM (A : Ab) (R t : Nat) : Nat → Nat := iM A R t 16
theorem EM_sp {A : Ab} (hs : WFs A) {R v b c : Nat} (h : EM A R v b c) : v < 16 ∧ b < 16 ∧ A 10 v = 0 ∧ A 10 b = 0 ∧ ∃ l, Lk A v b l ∧ A 8 l = 1 ∧ R ≤ A 7 l ∧ c = wM A l ∧ A 3 l ≤ 99 := by
  have hN := hs.1
  obtain ⟨l, h1, h2, h3, h4⟩ := h
  have h3 := of_decide_eq_true h3
  have h5 := hs.2.1 l h1
  refine ⟨?_, ?_, h3.2.2.1, h3.2.2.2, l, ⟨h1, ?_⟩, h3.1, h3.2.1, h2, h5.2.2.2.2⟩
  · rcases h4 with h4 | h4 <;> omega
  · rcases h4 with h4 | h4 <;> omega
  · rcases h4 with h4 | h4
    · exact Or.inl ⟨h4.1.symm, h4.2.symm⟩
    · exact Or.inr ⟨h4.2.symm, h4.1.symm⟩
theorem EM_of {A : Ab} {R v b l : Nat} (h : Lk A v b l) (h1 : A 8 l = 1) (h2 : R ≤ A 7 l) (h3 : A 10 v = 0) (h4 : A 10 b = 0) : EM A R v b (wM A l) :=
  ⟨l, h.1, rfl, decide_eq_true ⟨h1, h2, h3, h4⟩, h.2.elim (fun x => Or.inl ⟨x.1.symm, x.2.symm⟩) (fun x => Or.inr ⟨x.2.symm, x.1.symm⟩)⟩
theorem xM_ok {A : Ab} (hs : WFs A) {R t : Nat} (ht : t < 16) : Snd (EM A R) t 1000000000 (xM A R t) ∧ Cls (EM A R) (xM A R t) ∧ ∀ u, xM A R t u ≤ 1000000000 := by
  have h0 : Snd (EM A R) t 1000000000 (x0 1000000000 t) := ⟨if_pos rfl, fun v hv => by
    by_cases e : v = t
    · exact Or.inl e
    · unfold x0 at hv; rw [if_neg e] at hv; omega⟩
  have hF : ∀ u, x0 1000000000 t u ≤ 1000000000 := fun u => by unfold x0; split <;> omega
  refine ⟨itF_snd h0 hF 16, itF_cls h0 hF ht (fun v b c h => ?_) (fun v hv => if_neg (by omega)), iM_le 16⟩
  obtain ⟨a, b, _, _, l, _, _, _, e, _⟩ := EM_sp hs h
  exact ⟨a, b, by rw [e]; unfold wM; omega⟩
theorem xM_out {A : Ab} (hs : WFs A) {R t v : Nat} (ht : t < 16) (h0 : A 10 t = 0) (h : xM A R t v < 1000000000) : v < 16 ∧ A 10 v = 0 := by
  rcases (xM_ok hs ht).1.2 v h with z | ⟨b, c, x, _⟩
  · rw [z]; exact ⟨ht, h0⟩
  · have := EM_sp hs x; exact ⟨this.1, this.2.2.1⟩
theorem EM_dh {A : Ab} (hs : WFs A) (ht : WFt A) {R : Nat} : ∀ v b c, EM A R v b c → 1 ≤ b ∧ b < 16 ∧ ∃ d, d ≤ 99 ∧ c = 100 * d + 1 := fun v b c h => by
  obtain ⟨_, h2, _, h4, l, _, _, _, h8, h9⟩ := EM_sp hs h
  refine ⟨?_, h2, A 3 l, h9, h8⟩
  apply Classical.byContradiction
  intro n
  have : b = 0 := by omega
  rw [this, ht.1] at h4
  omega
theorem xM_sm {A : Ab} (hs : WFs A) (ht : WFt A) {R t v : Nat} (ht16 : t < 16) (h : xM A R t v < 1000000000) : ∃ D H, xM A R t v = 100 * D + H ∧ H ≤ 15 ∧ D ≤ 1485 := by
  obtain ⟨D, H, e1, e2, e3⟩ := dh_bd (EM_dh hs ht) (xM_ok hs ht16).1 (xM_ok hs ht16).2.1 _ v (Nat.le_refl _) h
  have := lw_n (xM A R t) (xM A R t v) 15
  exact ⟨D, H, e1, by omega, by omega⟩
theorem onw_dec {A : Ab} (hs : WFs A) {R t v : Nat} (ht16 : t < 16) (h1 : v ≠ t) (h2 : xM A R t v < 1000000000) : onw A R (xM A R t) v ≠ 99 ∧ xM A R t (onw A R (xM A R t) v) < xM A R t v := by
  have hN := hs.1
  rcases (xM_ok hs ht16 (R := R)).1.2 v h2 with z | ⟨b, c, x, y⟩
  · exact absurd z h1
  · obtain ⟨a1, a2, a3, a4, l, a5, a6, a7, a8, a9⟩ := EM_sp hs x
    have hl := lnk_e hs a5
    have hbN : b < A 0 0 := by
      have := hs.2.1 l a5.1
      rcases a5.2 with q | q <;> omega
    have hcb : cM A R (xM A R t) v b = xM A R t b + c := by
      have : xM A R t b < 1000000000 := by omega
      unfold cM
      rw [if_pos ⟨a4, lq_of hs a5, by rw [hl]; exact a6, by rw [hl]; exact a7, this⟩, hl, a8]
    have hne : onw A R (xM A R t) v ≠ 99 := by
      intro e
      rcases am_sp (c := cM A R (xM A R t) v) (F := 1000000000) (A 0 0) with ⟨p, q⟩ | ⟨p, _⟩
      · have := q b hbN; omega
      · have e : (am (cM A R (xM A R t) v) 1000000000 (A 0 0)).1 = 99 := e
        omega
    have hsp := onw_sp hne
    have h9 := hsp.2.2.2.2.2.2.2.2 b hbN
    have h7 := hsp.2.2.2.2.2.2.1
    have hw : 1 ≤ wM A (lnk A v (onw A R (xM A R t) v)) := by unfold wM; omega
    exact ⟨hne, by omega⟩
/-- the nodes of a way, one after the other -/
def pth (A : Ab) (R : Nat) (X : Nat → Nat) (v : Nat) : Nat → Nat
  | 0 => v
  | i + 1 => onw A R X (pth A R X v i)
theorem pth_s {A : Ab} {R : Nat} {X : Nat → Nat} : ∀ i v, pth A R X (onw A R X v) i = pth A R X v (i + 1) := by
  intro i
  induction i with
  | zero => intro v; rfl
  | succ i ih => intro v; rw [pth, ih v]; rfl
theorem pth_end {A : Ab} (hs : WFs A) (ht : WFt A) {R t : Nat} (ht16 : t < 16) (h0 : A 10 t = 0) : ∀ s v, v < 16 → A 10 v = 0 → xM A R t v < 1000000000 → lw (xM A R t) (xM A R t v) 15 ≤ s → ∃ n, n ≤ s ∧ pth A R (xM A R t) v n = t ∧ ∀ i, i < n → pth A R (xM A R t) v i ≠ t := by
  intro s
  induction s with
  | zero =>
    intro v hv ho hx hl
    by_cases e : v = t
    · exact ⟨0, by omega, e, fun i hi => by omega⟩
    · obtain ⟨h1, h2⟩ := onw_dec hs ht16 e hx
      obtain ⟨a1, a2, _⟩ := onw_sp h1
      have hN := hs.1
      have : 1 ≤ onw A R (xM A R t) v := by
        apply Classical.byContradiction
        intro n
        have : onw A R (xM A R t) v = 0 := by omega
        rw [this, ht.1] at a2; omega
      have := (lw_mono (X := xM A R t) (y := xM A R t (onw A R (xM A R t) v)) (z := xM A R t v) (by omega) this (by omega) h2 15).2 (by omega)
      omega
  | succ s ih =>
    intro v hv ho hx hl
    by_cases e : v = t
    · exact ⟨0, by omega, e, fun i hi => by omega⟩
    · obtain ⟨h1, h2⟩ := onw_dec hs ht16 e hx
      obtain ⟨a1, a2, _⟩ := onw_sp h1
      have hN := hs.1
      have hb1 : 1 ≤ onw A R (xM A R t) v := by
        apply Classical.byContradiction
        intro n
        have : onw A R (xM A R t) v = 0 := by omega
        rw [this, ht.1] at a2; omega
      have := (lw_mono (X := xM A R t) (y := xM A R t (onw A R (xM A R t) v)) (z := xM A R t v) (by omega) hb1 (by omega) h2 15).2 (by omega)
      obtain ⟨n, n1, n2, n3⟩ := ih (onw A R (xM A R t) v) (by omega) a2 (by omega) (by omega)
      refine ⟨n + 1, by omega, ?_, fun i hi => ?_⟩
      · rw [← pth_s]; exact n2
      · cases i with
        | zero => exact e
        | succ i => rw [← pth_s]; exact n3 i (by omega)
/-- a way from the tree to t -/
def Way (A : Ab) (R t n : Nat) (p : Nat → Nat) : Prop := frs A R (xM A R t) ≠ 99 ∧ p 0 = frs A R (xM A R t) ∧ (∀ i, p (i + 1) = onw A R (xM A R t) (p i)) ∧ 1 ≤ n ∧ n ≤ 15 ∧ p n = t ∧ (∀ i, i < n → p i ≠ t) ∧ inT A (p 0) ∧ ∀ i, i < n → onw A R (xM A R t) (p i) ≠ 99 ∧ p (i + 1) < A 0 0 ∧ A 10 (p (i + 1)) = 0 ∧ xM A R t (p (i + 1)) < 1000000000 ∧ Lk A (p (i + 1)) (p i) (lnk A (p i) (p (i + 1))) ∧ (1 ≤ i → xM A R t (p (i + 1)) < xM A R t (p i))
theorem frs_sp {A : Ab} {R : Nat} {X : Nat → Nat} (h : frs A R X ≠ 99) : frs A R X < A 0 0 ∧ A 10 (frs A R X) ≠ 0 ∧ onw A R X (frs A R X) ≠ 99 := by
  rcases am_sp (c := cL A R X) (F := 1000000000) (A 0 0) with ⟨a, b⟩ | ⟨a1, a2, a3, a4, a5⟩
  · exact absurd (show (am (cL A R X) 1000000000 (A 0 0)).1 = 99 by rw [a]) h
  · have h2 : cL A R X (frs A R X) < 1000000000 := by
      have : cL A R X (frs A R X) = (am (cL A R X) 1000000000 (A 0 0)).2 := a2.symm
      omega
    have h3 : A 10 (frs A R X) ≠ 0 ∧ onw A R X (frs A R X) ≠ 99 := by
      apply Classical.byContradiction
      intro n
      unfold cL at h2
      rw [if_neg n] at h2
      omega
    exact ⟨a1, h3.1, h3.2⟩
theorem way_ex {A : Ab} (hs : WFs A) (ht : WFt A) {R t : Nat} (ht16 : t < 16) (h0 : A 10 t = 0) (h : frs A R (xM A R t) ≠ 99) : ∃ n, Way A R t n (pth A R (xM A R t) (frs A R (xM A R t))) := by
  have hN := hs.1
  obtain ⟨f1, f2, f3⟩ := frs_sp h
  obtain ⟨a1, a2, a3, a4, a5, a6, _⟩ := onw_sp f3
  have hb1 : 1 ≤ onw A R (xM A R t) (frs A R (xM A R t)) := by
    apply Classical.byContradiction
    intro n
    have : onw A R (xM A R t) (frs A R (xM A R t)) = 0 := by omega
    rw [this, ht.1] at a2; omega
  have hl14 := (lw_bd (X := xM A R t) (y := xM A R t (onw A R (xM A R t) (frs A R (xM A R t)))) hb1 (by omega) 15).2 (by omega)
  obtain ⟨n, n1, n2, n3⟩ := pth_end hs ht ht16 h0 _ _ (by omega) a2 a6 (Nat.le_refl _)
  have hft : frs A R (xM A R t) ≠ t := fun e => by rw [e] at f2; exact f2 h0
  have hne : ∀ i, i < n + 1 → pth A R (xM A R t) (frs A R (xM A R t)) i ≠ t := fun i hi => by
    cases i with
    | zero => exact hft
    | succ i => rw [← pth_s]; exact n3 i (by omega)
  have key : ∀ i, i < n + 1 → onw A R (xM A R t) (pth A R (xM A R t) (frs A R (xM A R t)) i) ≠ 99 ∧ xM A R t (pth A R (xM A R t) (frs A R (xM A R t)) (i + 1)) < 1000000000 ∧ (1 ≤ i → xM A R t (pth A R (xM A R t) (frs A R (xM A R t)) (i + 1)) < xM A R t (pth A R (xM A R t) (frs A R (xM A R t)) i)) := by
    intro i
    induction i with
    | zero => intro _; exact ⟨f3, a6, fun z => by omega⟩
    | succ i ih =>
      intro hi
      obtain ⟨k1, k2, k3⟩ := ih (by omega)
      obtain ⟨d1, d2⟩ := onw_dec hs ht16 (hne (i + 1) hi) k2
      have d2 : xM A R t (pth A R (xM A R t) (frs A R (xM A R t)) (i + 1 + 1)) < xM A R t (pth A R (xM A R t) (frs A R (xM A R t)) (i + 1)) := d2
      exact ⟨d1, by omega, fun _ => d2⟩
  refine ⟨n + 1, h, rfl, fun i => rfl, by omega, by omega, by rw [← pth_s]; exact n2, hne, ⟨by show frs A R (xM A R t) < 16; omega, f2⟩, fun i hi => ?_⟩
  obtain ⟨k1, k2, k3⟩ := key i hi
  obtain ⟨b1, b2, b3, _⟩ := onw_sp k1
  exact ⟨k1, b1, b2, k2, (lq_iff.mp b3).symm, k3⟩
theorem way_inj {A : Ab} {R t n : Nat} {p : Nat → Nat} (h : Way A R t n p) : ∀ d i, 1 ≤ i → i + (d + 1) ≤ n → xM A R t (p (i + (d + 1))) < xM A R t (p i) := by
  intro d
  induction d with
  | zero => intro i h1 h2; exact (h.2.2.2.2.2.2.2.2 i (by omega)).2.2.2.2.2 h1
  | succ d ih =>
    intro i h1 h2
    have h3 := ih i h1 (by omega)
    have h4 := (h.2.2.2.2.2.2.2.2 (i + (d + 1)) (by omega)).2.2.2.2.2 (by omega)
    have : i + (d + 1) + 1 = i + (d + 1 + 1) := by omega
    rw [this] at h4
    omega
theorem way_ne {A : Ab} {R t n : Nat} {p : Nat → Nat} (h : Way A R t n p) {i j : Nat} (hij : i < j) (hj : j ≤ n) : p i ≠ p j := fun e => by
  have hj0 := (h.2.2.2.2.2.2.2.2 (j - 1) (by omega)).2.2.1
  rw [show j - 1 + 1 = j by omega] at hj0
  by_cases z : i = 0
  · have := h.2.2.2.2.2.2.2.1.2
    rw [z] at e
    rw [e] at this
    exact this hj0
  · have := way_inj h (j - i - 1) i (by omega) (by omega)
    rw [show i + (j - i - 1 + 1) = j by omega, e] at this
    omega
def F13 (m m2 : St) : Prop := (∀ k, k ≠ 0 → k ≠ 12 → k ≠ 13 → m2.1 k = m.1 k) ∧ (∀ i, i ≠ 23 → m2.1 0 i = m.1 0 i) ∧ m2.2 = m.2
theorem F13.w {m m2 : St} (h : F13 m m2) : Fw m m2 := ⟨fun k a b c => h.1 k a (by omega) (by omega), h.2.1, h.2.2⟩
theorem F13.rm {A : Ab} {m m2 : St} (h : F13 m m2) (hr : RM A m) : RM A m2 := by
  unfold RM
  rw [h.1 2 (by omega) (by omega) (by omega), h.1 4 (by omega) (by omega) (by omega)]
  exact hr
theorem F12.f {m m2 : St} (h : F12 m m2) : F13 m m2 := ⟨fun k a b c => h.1 k b, fun i _ => by rw [h.1 0 (by omega)], h.2⟩
theorem F13.tr {a b c : St} (h : F13 a b) (h2 : F13 b c) : F13 a c := ⟨fun k x y z => (h2.1 k x y z).trans (h.1 k x y z), fun i hi => (h2.2.1 i hi).trans (h.2.1 i hi), h2.2.2.trans h.2.2⟩
theorem F13.a {m : St} {i : Nat} {v : Int32} : F13 m (st m 13 i v) := ⟨fun k a b c => st_row_ne c, fun j _ => by rw [st_row_ne (by omega)], rfl⟩
theorem F13.b {m : St} {v : Int32} : F13 m (st m 0 23 v) := ⟨fun k a b c => st_row_ne a, fun j hj => by rw [st_row_same, upd_e, if_neg hj], rfl⟩
def RP (p : Nat → Nat) (n : Nat) (m : St) : Prop := gt m 0 23 = nI (n + 1) ∧ ∀ i, i ≤ n → gt m 13 i = nI (p i)
theorem lays133 {A : Ab} (hs : WFs A) (ht : WFt A) (hc : WFc A) {R t n : Nat} {p : Nat → Nat} (hb : R < 2 ^ 30) (ht16 : t < 16) (hw : Way A R t n p) : ∀ (fu i : Nat) (m : St), RM A m → RX (xM A R t) m → RP p i m → i ≤ n → n < i + fu → ∃ m2, M_lays_L133 fu (nI t) (nI R) (nI (p i)) m = some (1, m2) ∧ F13 m m2 ∧ RP p n m2 := by
  have hN := hs.1
  intro fu
  induction fu with
  | zero => intro i m _ _ _ h1 h2; omega
  | succ fu ih =>
    intro i m hR hX hP h1 h2
    rw [M_lays_L133]; unfold M_lays_B133
    by_cases e : i = n
    · subst e
      rw [hw.2.2.2.2.2.1, if_pos rfl]
      exact ⟨m, rfl, ⟨fun _ _ _ _ => rfl, fun _ _ => rfl, rfl⟩, hP⟩
    · have hi : i < n := by omega
      have hs9 := hw.2.2.2.2.2.2.2.2 i hi
      have hpi : p i < 16 := by
        by_cases z : i = 0
        · rw [z]; exact hw.2.2.2.2.2.2.2.1.1
        · have := (hw.2.2.2.2.2.2.2.2 (i - 1) (by omega)).2.1
          rw [show i - 1 + 1 = i by omega] at this; omega
      have hn15 := hw.2.2.2.2.1
      rw [if_neg (fun x => hw.2.2.2.2.2.2.1 i hi (nI_inj (by omega) (by omega) x)), M_onward_e hs ht hc hR hX (xM_ok hs ht16).2.2 hb hpi, b1_some, show bI (onw A R (xM A R t) (p i)) = nI (p (i + 1)) by rw [hw.2.2.1 i]; exact if_neg hs9.1, hP.1, wr_n (by omega) (by omega), b1_some, lt_e, gt_st_k (by omega), hP.1, nI_1]
      have hF : F13 m (st (st m 13 (i + 1) (nI (p (i + 1)))) 0 23 (nI (i + 1 + 1))) := F13.a.tr F13.b
      obtain ⟨m2, g1, g2, g3⟩ := ih (i + 1) _ (hF.rm hR) (fun v hv => by rw [gt_st_k (by omega), gt_st_k (by omega)]; exact hX v hv) ⟨by rw [gt_st_same], fun j hj => by
        rw [gt_st_k (by omega)]
        by_cases d : j = i + 1
        · subst d; rw [gt_st_same]
        · rw [gt_st_i d]; exact hP.2 j (by omega)⟩ (by omega) (by omega)
      exact ⟨m2, g1, hF.tr g2, g3⟩
theorem M_lays_e {A : Ab} {m : St} (hs : WFs A) (ht : WFt A) (hc : WFc A) (hR : RM A m) {R t : Nat} (hb : R < 2 ^ 30) (ht16 : t < 16) (h0 : A 10 t = 0) : (frs A R (xM A R t) = 99 ∧ ∃ m2, M_lays m (nI t) (nI R) = some (0, m2) ∧ F13 m m2) ∨ (∃ n, Way A R t n (pth A R (xM A R t) (frs A R (xM A R t))) ∧ ∃ m2, M_lays m (nI t) (nI R) = some (1, m2) ∧ F13 m m2 ∧ RP (pth A R (xM A R t) (frs A R (xM A R t))) n m2) := by
  have hN := hs.1
  unfold M_lays
  obtain ⟨m1, a1, a2, a3⟩ := M_reaches_e hs ht hc hR hb ht16
  have a3 : RX (xM A R t) m1 := a3
  rw [a1, b1_some, lt_e]
  have hF1 : F13 m (st m1 0 23 0) := a2.f.tr F13.b
  have hR1 := hF1.rm hR
  have hX1 : RX (xM A R t) (st m1 0 23 0) := fun v hv => by rw [gt_st_k (by omega)]; exact a3 v hv
  have h21 := lays21 hs ht hc hR1 hX1 (xM_ok hs ht16).2.2 hb (nI t) (fun y15 y16 y17 => if 0 ≤ y17 then b1 (wr 17 (st m1 0 23 0) 13 0 y17) fun q19 => lt_ (st q19 0 23 1) fun q20 => M_lays_L133 FU y15 y16 y17 q20 else some (0, st m1 0 23 0)) FU 0 (by omega) (by rw [FU_e]; omega)
  rw [show nI (am (cL A R (xM A R t)) 1000000000 0).2 = 1000000000 from rfl, show bI (am (cL A R (xM A R t)) 1000000000 0).1 = -2 from rfl, show nI 0 = 0 from rfl] at h21
  rw [h21]
  by_cases e : frs A R (xM A R t) = 99
  · refine Or.inl ⟨e, _, ?_, hF1⟩
    rw [show bI (frs A R (xM A R t)) = -2 from if_pos e, if_neg (by decide)]
  · obtain ⟨n, hw⟩ := way_ex hs ht ht16 h0 e
    have hf := frs_sp e
    refine Or.inr ⟨n, hw, ?_⟩
    rw [show bI (frs A R (xM A R t)) = nI (frs A R (xM A R t)) from if_neg e, if_pos (nI_pos' (by omega)), wr_at 0 li0 (by omega) (by omega), b1_some, lt_e]
    have hF2 : F13 m (st (st (st m1 0 23 0) 13 0 (nI (frs A R (xM A R t)))) 0 23 1) := (hF1.tr F13.a).tr F13.b
    obtain ⟨m2, g1, g2, g3⟩ := lays133 hs ht hc hb ht16 hw FU 0 _ (hF2.rm hR) (fun v hv => by rw [gt_st_k (by omega), gt_st_k (by omega)]; exact hX1 v hv) ⟨by rw [gt_st_same]; rfl, fun j hj => by
      rw [gt_st_k (by omega), show j = 0 by omega, gt_st_same]; rfl⟩ (by omega) (by rw [FU_e]; have := hw.2.2.2.2.1; omega)
    exact ⟨m2, g1, hF2.tr g2, g3⟩
