/-! ===== PHASE B: the bottleneck, the report ===== -/
theorem sub_cmp {a b c d : Nat} (ha : a < 2 ^ 30) (hb : b < 2 ^ 30) (hc : c < 2 ^ 30) (hd : d < 2 ^ 30) : (nI a - nI b ≤ nI c - nI d ↔ a + d ≤ c + b) ∧ (nI a - nI b < nI c - nI d ↔ a + d < c + b) ∧ (nI a - nI b = nI c - nI d ↔ a + d = c + b) := by
  have e1 := pk_sub_toInt ha hb
  have e2 := pk_sub_toInt hc hd
  refine ⟨?_, ?_, ?_⟩
  · rw [i32_le, e1, e2]; omega
  · rw [i32_lt, e1, e2]; omega
  · rw [← Int32.toInt_inj, e1, e2]; omega
def fr (A : Ab) (l : Nat) : Nat := A 7 l + 20000 - lld A l
def cB (A : Ab) (r l : Nat) : Nat := if ovr A r l = 1 then fr A l else 100000
theorem fr_lt {A : Ab} (hG : WFg A) {l : Nat} (hl : l < A 0 1) : fr A l < 100000 := by
  have := (hG.1.2.2.1.1 l hl).1
  unfold fr; omega
theorem fr_cmp {A : Ab} (hG : WFg A) {a b : Nat} (ha : a < A 0 1) (hb : b < A 0 1) : (nI (A 7 a) - nI (lld A a) ≤ nI (A 7 b) - nI (lld A b) ↔ fr A a ≤ fr A b) ∧ (nI (A 7 a) - nI (lld A a) < nI (A 7 b) - nI (lld A b) ↔ fr A a < fr A b) ∧ (nI (A 7 a) - nI (lld A a) = nI (A 7 b) - nI (lld A b) ↔ fr A a = fr A b) := by
  have h1 := (hG.1.2.2.1.1 a ha).1
  have h2 := (hG.1.2.2.1.1 b hb).1
  have h3 := lld_le hG.1.1 hG.1.2.2.2 (l := a)
  have h4 := lld_le hG.1.1 hG.1.2.2.2 (l := b)
  obtain ⟨x, y, z⟩ := sub_cmp (a := A 7 a) (b := lld A a) (c := A 7 b) (d := lld A b) (by omega) (by omega) (by omega) (by omega)
  unfold fr
  refine ⟨x.trans ?_, y.trans ?_, z.trans ?_⟩ <;> omega
theorem bneckM {A D : Ab} {m : St} (hG : WFg A) (hR : RM A m) (hS : RS D m) (hM : MS A D) {r : Nat} (hr : r < A 0 4) : ∀ (fu l : Nat), l ≤ A 0 1 → A 0 1 < l + fu → M_bottleneck_L19 m fu (nI r) (bI (am (cB A r) 100000 l).1) (nI l) = some (bI (am (cB A r) 100000 (A 0 1)).1, m) := by
  have hN := hG.1.1.1
  intro fu
  induction fu with
  | zero => intro x h1 h2; omega
  | succ fu ih =>
    intro l h1 h2
    rw [M_bottleneck_L19]; unfold M_bottleneck_B19
    rw [rd_at 1 li1 (by omega) (by omega), b1_some, hR.g1]
    by_cases e : l < A 0 1
    · have nx := ih (l + 1) (by omega) (by omega)
      rw [am] at nx
      have ho := ovr_le hG (l := l) hr
      have hfl := fr_lt hG e
      have hle := am_2 (c := cB A r) (F := 100000) l
      rw [if_neg (fun z => by have := (nI_leI (by omega) (by omega)).mp z; omega), M_isOver_r hG hR hr e, b1_some, nI_1]
      have keep : (am (cB A r) 100000 l).2 ≤ cB A r l → M_bottleneck_L19 m fu (nI r) (bI (am (cB A r) 100000 l).1) (nI (l + 1)) = some (bI (am (cB A r) 100000 (A 0 1)).1, m) := fun q => by
        rw [if_neg (by omega)] at nx; exact nx
      have take : cB A r l < (am (cB A r) 100000 l).2 → M_bottleneck_L19 m fu (nI r) (nI l) (nI (l + 1)) = some (bI (am (cB A r) 100000 (A 0 1)).1, m) := fun q => by
        rw [if_pos q] at nx
        have nx : M_bottleneck_L19 m fu (nI r) (bI l) (nI (l + 1)) = some (bI (am (cB A r) 100000 (A 0 1)).1, m) := nx
        rw [show bI l = nI l from if_neg (by omega)] at nx
        exact nx
      by_cases c1 : ovr A r l = 0
      · rw [c1, if_pos nI_0]
        exact keep (by unfold cB; rw [if_neg (by omega)]; exact hle)
      · have hc : cB A r l = fr A l := if_pos (by omega)
        rw [if_neg (fun z => c1 ((nI_z (by omega)).mp z))]
        rcases am_sp (c := cB A r) (F := 100000) l with ⟨p1, p2⟩ | ⟨p1, p2, p3, p4, p5⟩
        · rw [p1, show bI (99, 100000).1 = -2 from rfl, if_pos (by decide)]
          exact take (by rw [p1, hc]; exact hfl)
        · obtain ⟨b, hb⟩ : ∃ b, b = (am (cB A r) 100000 l).1 := ⟨_, rfl⟩
          rw [← hb] at p1 p2
          have hbL : b < A 0 1 := by omega
          have hob : ovr A r b = 1 := by
            apply Classical.byContradiction
            intro z
            have : cB A r b = 100000 := if_neg z
            omega
          have hcb : cB A r b = fr A b := if_pos hob
          have e9l : gt m 9 l = nI (lld A l) := by rw [hS.2.2.1 l (by omega), MS_lld hG.1.1 hG.1.2.1 hM (by omega)]
          have e9b : gt m 9 b = nI (lld A b) := by rw [hS.2.2.1 b (by omega), MS_lld hG.1.1 hG.1.2.1 hM (by omega)]
          rw [← hb] at keep ⊢
          have hbI : bI b = nI b := if_neg (by omega)
          rw [hbI] at keep ⊢
          rw [if_neg (nI_pos (by omega)), li0, nI_add, nI_add, Nat.zero_add, Nat.zero_add, rd_n (by omega) (by omega), b1_some, rd_n (by omega) (by omega), b1_some, rd_n (by omega) (by omega), b1_some, rd_n (by omega) (by omega), b1_some, e9l, e9b, hR.cap e, hR.cap hbL]
          by_cases q : fr A b ≤ fr A l
          · rw [if_pos ((fr_cmp hG hbL e).1.mpr q)]
            exact keep (by omega)
          · rw [if_neg (fun z => q ((fr_cmp hG hbL e).1.mp z))]
            exact take (by omega)
    · rw [if_pos ((nI_leI (by omega) (by omega)).mpr (by omega))]
      have : l = A 0 1 := by omega
      subst this
      rfl
/-- the link above the h-th node of a path -/
def ul (A : Ab) (x h : Nat) : Nat := lnk A (chn A h x) (upn A (chn A h x))
def VI (A : Ab) (x i y : Nat) : Prop := (i = 0 ∧ y = 99) ∨ (1 ≤ i ∧ y < A 0 1 ∧ (∃ h, h < i ∧ ul A x h = y) ∧ ∀ h, h < i → fr A y < fr A (ul A x h) ∨ (fr A y = fr A (ul A x h) ∧ y ≤ ul A x h))
theorem bneckK {A : Ab} {k : St} (hG : WFg A) (hK : RK A sI (A 0 4) k) (hM : KM A k) {x : Nat} (hx : inT A x) : ∀ (fu i y : Nat) (v3 : Int32), VI A x i y → (y ≠ 99 → v3 = nI (A 7 y) - nI (lld A y)) → i ≤ dep A x → dep A x < i + fu → ∃ z, K_bottleneck_L35 k fu (bI y) v3 (nI (chn A i x)) (nI i) = some (bI z, k) ∧ VI A x (dep A x) z := by
  have hN := hG.1.1.1
  obtain ⟨hd1, hd2, hd3⟩ := dep_le hG.1.1 hG.1.2.1 hx
  intro fu
  induction fu with
  | zero => intro i y v3 _ _ h1 h2; omega
  | succ fu ih =>
    intro i y v3 hV hv h1 h2
    rw [K_bottleneck_L35]; unfold K_bottleneck_B35
    have hin := chn_inT hG.1.1 hG.1.2.1 hx h1
    have hn16 := hin.1
    rw [if_neg (fun z => by rw [li16] at z; have := (nI_leI (by omega) (by omega)).mp z; omega)]
    by_cases e : i = dep A x
    · have h0 : chn A i x = 0 := by rw [e]; exact hd2
      rw [h0, if_pos (by decide)]
      exact ⟨y, rfl, by rw [← e]; exact hV⟩
    · have hz := hd3 i (by omega)
      have hul : ul A x i < A 0 1 := (lnk_up hG.1 hin hz).2.2.2.2
      have hll := lld_le hG.1.1 hG.1.2.2.2 (l := ul A x i)
      have hup9 : Sp_uplink k (nI (chn A i x)) = some (nI (ul A x i)) := by
        rw [Sp_uplink_e hG.1 hK hn16, if_pos (show chn A i x ≠ 0 ∧ A 10 (chn A i x) ≠ 0 from ⟨hz, hin.2⟩)]; rfl
      rw [if_neg (fun z => by rw [li0] at z; have := (nI_leI (by omega) (by omega)).mp z; omega), hup9, b1_some, if_neg (nI_neg1 (by omega)), rd_n (by omega) (by omega), b1_some, rd_n (by omega) (by omega), b1_some, lt_e, hK.cap hul, hM.2.1 _ hul]
      have J : ∀ (y' : Nat) (v' : Int32), VI A x (i + 1) y' → (y' ≠ 99 → v' = nI (A 7 y') - nI (lld A y')) → ∃ z, K_bottleneck_J117 (K_bottleneck_L35 k fu) (bI y') v' (nI (chn A i x)) (nI i) k = some (bI z, k) ∧ VI A x (dep A x) z := fun y' v' hV' hv' => by
        unfold K_bottleneck_J117
        rw [rd_n hn16 (by omega), b1_some, hK.up hG.1 hin hz, ← chn_succ, nI_1]
        exact ih (i + 1) y' v' hV' hv' (by omega) (by omega)
      have hbu : bI (ul A x i) = nI (ul A x i) := if_neg (by omega)
      have take : (∀ h, h < i → fr A (ul A x i) < fr A (ul A x h) ∨ (fr A (ul A x i) = fr A (ul A x h) ∧ ul A x i ≤ ul A x h)) → ∃ z, K_bottleneck_J111 (K_bottleneck_L35 k fu) (nI (chn A i x)) (nI i) (nI (ul A x i)) (nI (A 7 (ul A x i)) - nI (lld A (ul A x i))) k = some (bI z, k) ∧ VI A x (dep A x) z := fun hq => by
        unfold K_bottleneck_J111
        rw [← hbu]
        refine J (ul A x i) _ (Or.inr ⟨by omega, hul, ⟨i, by omega, rfl⟩, fun h hh => ?_⟩) (fun _ => rfl)
        by_cases d : h = i
        · rw [d]; exact Or.inr ⟨rfl, Nat.le_refl _⟩
        · exact hq h (by omega)
      have keep : (fr A y < fr A (ul A x i) ∨ (fr A y = fr A (ul A x i) ∧ y ≤ ul A x i)) → y ≠ 99 → ∃ z, K_bottleneck_J117 (K_bottleneck_L35 k fu) (bI y) v3 (nI (chn A i x)) (nI i) k = some (bI z, k) ∧ VI A x (dep A x) z := fun hq hy => by
        rcases hV with ⟨_, q2⟩ | ⟨q1, q2, ⟨h, q3, q4⟩, q5⟩
        · exact absurd q2 hy
        · refine J y v3 (Or.inr ⟨by omega, q2, ⟨h, by omega, q4⟩, fun h hh => ?_⟩) hv
          by_cases d : h = i
          · rw [d]; exact hq
          · exact q5 h (by omega)
      rcases id hV with ⟨q1, q2⟩ | ⟨q1, q2, q3, q5⟩
      · rw [show bI y = -2 from if_pos q2, if_pos rfl]
        exact take (fun h hh => by omega)
      · have hby : bI y = nI y := if_neg (by omega)
        have hv' := hv (by omega)
        rw [if_neg (show ¬ bI y = -2 by rw [hby]; exact nI_neg2 (by omega)), hv']
        by_cases c1 : fr A (ul A x i) < fr A y
        · rw [if_pos ((fr_cmp hG hul q2).2.1.mpr c1)]
          exact take (fun h hh => by have := q5 h hh; omega)
        · rw [if_neg (fun z => c1 ((fr_cmp hG hul q2).2.1.mp z))]
          by_cases c2 : fr A (ul A x i) = fr A y
          · rw [if_pos ((fr_cmp hG hul q2).2.2.mpr c2), hby]
            by_cases c3 : y ≤ ul A x i
            · rw [if_pos ((nI_leI (by omega) (by omega)).mpr c3), ← hby, ← hv']
              exact keep (Or.inr ⟨c2.symm, c3⟩) (by omega)
            · rw [if_neg (fun z => c3 ((nI_leI (by omega) (by omega)).mp z))]
              exact take (fun h hh => by have := q5 h hh; omega)
          · rw [if_neg (fun z => c2 ((fr_cmp hG hul q2).2.2.mp z)), ← hv']
            exact keep (Or.inl (by omega)) (by omega)
theorem bneck_eq {A : Ab} (hG : WFg A) {r z : Nat} (hr : r < A 0 4) (hl : 0 < A 14 r) (hV : VI A (A 11 r) (dep A (A 11 r)) z) : (am (cB A r) 100000 (A 0 1)).1 = z := by
  have hN := hG.1.1.1
  have h4 := hG.2.1.1
  have hx := WFr.in hG.1.1 hG.1.2.2.2 (r := r) (by omega) hl
  obtain ⟨hd1, hd2, hd3⟩ := dep_le hG.1.1 hG.1.2.1 hx
  have hP : ∀ l, ovr A r l = 1 ↔ ∃ h, h < dep A (A 11 r) ∧ ul A (A 11 r) h = l := fun l => by
    unfold ovr
    rw [if_neg (by omega)]
    constructor
    · intro c
      obtain ⟨n, n1, n2, n3, h, h1, h2⟩ := ov_ex hG.1 _ hx c
      refine ⟨h, ?_, by unfold ul; rw [h2]; exact n3⟩
      apply Classical.byContradiction
      intro q
      rw [show h = dep A (A 11 r) by omega, hd2] at h2
      exact n2 h2.symm
    · rintro ⟨h, h1, h2⟩
      exact ov_chn hG.1.1 hG.1.2.1 (hd3 h h1) h2 h _ hx (by omega) rfl
  rcases hV with ⟨q1, q2⟩ | ⟨q1, q2, ⟨h, q3, q4⟩, q5⟩
  · rcases am_sp (c := cB A r) (F := 100000) (A 0 1) with ⟨p1, p2⟩ | ⟨p1, p2, p3, p4, p5⟩
    · rw [p1, q2]
    · have : ovr A r (am (cB A r) 100000 (A 0 1)).1 = 1 := by
        apply Classical.byContradiction
        intro w
        have : cB A r (am (cB A r) 100000 (A 0 1)).1 = 100000 := if_neg w
        omega
      obtain ⟨h, h1, _⟩ := (hP _).mp this
      omega
  · have hz : ovr A r z = 1 := (hP z).mpr ⟨h, q3, q4⟩
    have hcz : cB A r z = fr A z := if_pos hz
    have hfz := fr_lt hG q2
    rw [am_eq (c := cB A r) (F := 100000) (u := z) q2 (by omega) (fun w hw => ?_) (fun w hw => ?_)]
    · by_cases c : ovr A r w = 1
      · obtain ⟨h', h1, h2⟩ := (hP w).mp c
        have := q5 h' h1
        rw [h2] at this
        have : cB A r w = fr A w := if_pos c
        omega
      · have : cB A r w = 100000 := if_neg c
        omega
    · by_cases c : ovr A r w = 1
      · obtain ⟨h', h1, h2⟩ := (hP w).mp c
        have := q5 h' h1
        rw [h2] at this
        have : cB A r w = fr A w := if_pos c
        omega
      · have : cB A r w = 100000 := if_neg c
        omega
theorem sp_bottleneck : Sp_bottleneck Inv := by
  intro k m v1 hI
  obtain ⟨A, hG, hR, hK, hT, hH⟩ := id hI
  have hN := hG.1.1.1
  have h4 := hG.2.1.1
  unfold K_bottleneck M_bottleneck
  rcases recv_c hG hR hK v1 with ⟨r, r1, r2, r3, r4, r5⟩ | ⟨r4, r5⟩
  · simp only [b1_some, b2_some, lt_e, o10, eq_self, ↓reduceIte, r4, r5]
    obtain ⟨m2, k2, D, x1, x2, x3, x4, x5, x6, x7, x8, x9⟩ := meas_both hG hR hK
    have hMb := bneckM hG x3 x7 x8 r1 FU 0 (by omega) (by rw [FU_e]; omega)
    have hMb : M_bottleneck_L19 m2 FU (nI r) (-2) 0 = some (bI (am (cB A r) 100000 (A 0 1)).1, m2) := hMb
    rw [x1, x2, b1_some, b1_some, r3, hMb, Sp_pathStart_e hG.1 (Sg_sI hG.2.1) x4 r1, b1_some]
    have fin : ∀ z : Int32, Q2 A k m (some (z, k2)) (some (z, m2)) := fun z => ⟨z, k2, m2, rfl, rfl, x3, x4, x5.q, x6.p⟩
    by_cases c : A 14 r = 0
    · rw [if_pos (show A 14 (sI r) = 0 from c), show FU = 3999 + 1 from rfl, K_bottleneck_L35]; unfold K_bottleneck_B35
      rw [if_neg (by decide), if_pos (by decide)]
      have : (am (cB A r) 100000 (A 0 1)).1 = 99 := by
        rcases am_sp (c := cB A r) (F := 100000) (A 0 1) with ⟨p1, p2⟩ | ⟨p1, p2, p3, p4, p5⟩
        · rw [p1]
        · have : cB A r (am (cB A r) 100000 (A 0 1)).1 = 100000 := by
            unfold cB ovr
            rw [if_pos c, if_neg (by omega)]
          omega
      rw [this]
      exact (fin _).done hG hT hH
    · rw [if_neg (show ¬ A 14 (sI r) = 0 from c)]
      have hx := WFr.in hG.1.1 hG.1.2.2.2 (r := r) (by omega) (by omega)
      have hd := (dep_le hG.1.1 hG.1.2.1 hx).1
      obtain ⟨z, z1, z2⟩ := bneckK hG x4 x9 hx FU 0 99 0 (Or.inl ⟨rfl, rfl⟩) (fun q => absurd rfl q) (by omega) (by rw [FU_e]; omega)
      have z1 : K_bottleneck_L35 k2 FU (-2) 0 (nI (A 11 (sI r))) 0 = some (bI z, k2) := z1
      rw [z1, bneck_eq hG r1 (by omega) z2]
      exact (fin _).done hG hT hH
  · simp only [b1_some, b2_some, lt_e, o10, eq_self, ↓reduceIte, r4, r5]
    exact ⟨-1, k, m, rfl, rfl, hI⟩
/-! the report -/
def Gm (m m2 : St) : Prop := (∀ j, j ≠ 0 → j ≠ 17 → m2.1 j = m.1 j) ∧ ∀ i, i ≠ 28 → m2.1 0 i = m.1 0 i
def Gk (k k2 : St) : Prop := ∀ j, j ≠ 166 → j ≠ 167 → k2.1 j = k.1 j
theorem Gm.rf {m : St} : Gm m m := ⟨fun _ _ _ => rfl, fun _ _ => rfl⟩
theorem Gk.rf {m : St} : Gk m m := fun _ _ _ => rfl
theorem Gm.tr {a b c : St} (h : Gm a b) (h2 : Gm b c) : Gm a c := ⟨fun j x y => (h2.1 j x y).trans (h.1 j x y), fun i x => (h2.2 i x).trans (h.2 i x)⟩
theorem Gk.tr {a b c : St} (h : Gk a b) (h2 : Gk b c) : Gk a c := fun j x y => (h2 j x y).trans (h j x y)
def RpI (L : Nat) (k m : St) : Prop := gt m 0 28 = nI L ∧ gt k 166 4 = nI L ∧ ∀ i, i < L → gt m 17 i = gt k 167 i
theorem put_both {L : Nat} {k m : St} (h : RpI L k m) (hL : L < 176) (v : Int32) : ∃ k2 m2, Rp_put k v = some k2 ∧ M_says m v = some m2 ∧ RpI (L + 1) k2 m2 ∧ Gk k k2 ∧ Gm m m2 := by
  unfold Rp_put M_says
  rw [h.1, h.2.1, if_neg (fun z => by rw [show (176 : Int32) = nI 176 by decide] at z; have := (nI_leI (by omega) (by omega)).mp z; omega), wr_n hL (by omega), b1_some, wr_n (by omega) (by omega), b1_some, lt_e, lt_e, gt_st_k (by omega), gt_st_k (by omega), h.1, h.2.1, nI_1]
  refine ⟨_, _, rfl, rfl, ⟨gt_st_same, gt_st_same, fun i hi => ?_⟩, fun j a b => by rw [st_row_ne a, st_row_ne b], fun j a b => by rw [st_row_ne a, st_row_ne b], fun i hi => ?_⟩
  · rw [gt_st_k (show 17 ≠ 0 by omega), gt_st_k (show 167 ≠ 166 by omega)]
    by_cases d : i = L
    · rw [d, gt_st_same, gt_st_same]
    · rw [gt_st_i d, gt_st_i d]; exact h.2.2 i (by omega)
  · rw [st_row_same, upd_e, if_neg hi, st_row_ne (by omega)]
/-- a number and a blank -/
theorem num_both {L n : Nat} {k m : St} (h : RpI L k m) (hL : L + 3 ≤ 176) (hn : n < 2 ^ 31) : ∃ k2 m2 L2, (b1 (Rp_putNumber k (nI n)) fun q => Rp_put q 32) = some k2 ∧ M_saysNumber m (nI n) = some m2 ∧ RpI L2 k2 m2 ∧ L ≤ L2 ∧ L2 ≤ L + 3 ∧ Gk k k2 ∧ Gm m m2 := by
  have J : ∀ (L : Nat) (k m : St), RpI L k m → L + 2 ≤ 176 → ∃ k2 m2, (b1 (Rp_putNumber_J17 (nI n) k) fun q => Rp_put q 32) = some k2 ∧ M_saysNumber_J17 (nI n) m = some m2 ∧ RpI (L + 2) k2 m2 ∧ Gk k k2 ∧ Gm m m2 := fun L k m h hL => by
    unfold Rp_putNumber_J17 M_saysNumber_J17
    obtain ⟨k1, m1, a1, a2, a3, a4, a5⟩ := put_both h (by omega) (48 + (nI n - nI n / 10 * 10))
    rw [a1, a2, b1_some, b1_some, b1_some]
    obtain ⟨k2, m2, b1', b2', b3', b4', b5'⟩ := put_both a3 (by omega) 32
    rw [b1', b2', b1_some]
    exact ⟨k2, m2, rfl, rfl, b3', a4.tr b4', a5.tr b5'⟩
  unfold Rp_putNumber M_saysNumber
  by_cases c : n ≤ 9
  · rw [if_pos (by rw [li10]; exact (nI_ltI hn (by omega)).mpr (by omega)), if_pos (by rw [li9]; exact (nI_leI hn (by omega)).mpr c)]
    obtain ⟨k2, m2, a, b, c', d, e⟩ := J L k m h (by omega)
    exact ⟨k2, m2, L + 2, a, b, c', by omega, by omega, d, e⟩
  · rw [if_neg (fun z => by rw [li10] at z; have := (nI_ltI hn (by omega)).mp z; omega), if_neg (fun z => by rw [li9] at z; exact c ((nI_leI hn (by omega)).mp z))]
    obtain ⟨k1, m1, a1, a2, a3, a4, a5⟩ := put_both h (by omega) (48 + nI n / 10)
    rw [a1, a2, b1_some, b1_some]
    obtain ⟨k2, m2, a, b, c', d, e⟩ := J (L + 1) k1 m1 a3 (by omega)
    exact ⟨k2, m2, L + 1 + 2, a, b, c', by omega, by omega, a4.tr d, a5.tr e⟩
theorem dig1 : ∀ a, a < 10 → (48 : Int32) + (nI a - nI a / 10 * 10) = 48 + nI a := by decide +kernel
theorem Fl_asked_e {A : Ab} {k : St} (hG : WFg A) (hK : RK A sI (A 0 4) k) (hM : KM A k) {n f : Nat} (hn : inT A n) (hf : f < A 0 2) : Fl_asked k (nI n) (nI f) = some (nI (ask A n f)) := by
  have hN := hG.1.1.1
  have hn16 := hn.1
  have e9 := hK.pl (n := n) (f := f) hn16 (by omega)
  have hp := hG.1.2.2.1.2 n f hn16 (by omega)
  have hd := hM.1 n f hn16 hf
  have hask : ask A n f = if A 9 (4 * n + f) = 1 then 0 else dmd A n f := by
    unfold ask dmd as_
    rw [if_neg hn.2, if_neg hn.2]
    by_cases z : A 9 (4 * n + f) = 1
    · have := hp.2 z
      rw [if_pos z, if_pos ⟨by omega, z⟩]
    · rw [if_neg z, if_neg (fun w => z w.2)]
  unfold Fl_asked
  rw [lt_e, li4]
  simp (disch := omega) only [b1_some, b2_some, lt_e, rd_n, wr_n, nI_add, pk_mul, nI_leI, nI_ltI, nI_eq, nI_1, e9, hd]
  rw [hask]
  rcases (show A 9 (4 * n + f) = 0 ∨ A 9 (4 * n + f) = 1 by omega) with c | c
  · rw [c, if_pos nI_0, if_neg (by omega)]
  · rw [c, if_neg (by decide), if_pos rfl]; rfl
theorem line48 {A D : Ab} (hG : WFg A) (hM : MS A D) {n : Nat} (hn : inT A n) (kK : St → Option St) (kM : Int32 → St → Option St) : ∀ (fu f L : Nat) (k m : St), RpI L k m → RM A m → RK A sI (A 0 4) k → RS D m → KM A k → L + (A 0 2 - f) < 176 → f ≤ A 0 2 → A 0 2 < f + fu → ∃ k2 m2, Rp_writeLine_L32 kK fu (nI n) (nI f) k = kK k2 ∧ M_reports_L48 kM fu (nI n) (nI f) m = kM (nI n) m2 ∧ RpI (L + (A 0 2 - f)) k2 m2 ∧ Gk k k2 ∧ Gm m m2 := by
  have hN := hG.1.1.1
  have hn16 := hn.1
  intro fu
  induction fu with
  | zero => intro f L k m _ _ _ _ _ _ h1 h2; omega
  | succ fu ih =>
    intro f L k m hP hR hK hS hKM hL h1 h2
    rw [Rp_writeLine_L32, M_reports_L48]; unfold Rp_writeLine_B32 M_reports_B48
    rw [rd_at 2 li2 (by omega) (by omega), b1_some, hR.g2, hK.n2]
    by_cases e : f < A 0 2
    · have hle : ¬ nI (A 0 2) ≤ nI f := fun z => by have := (nI_leI (by omega) (by omega)).mp z; omega
      have hak := (ask_le hG.1.1 hG.1.2.2.2 (n := n) e).1
      have e8 : gt m 8 (4 * n + f) = nI (ask A n f) := by
        rw [hS.2.1 _ (by omega), hM.2.1 n f hn16 e]; rfl
      rw [if_neg hle, if_neg hle, Fl_asked_e hG hK hKM hn e, b1_some, li4, pk_mul, nI_add, rd_n (by omega) (by omega), b1_some, e8]
      unfold Rp_putNumber Rp_putNumber_J17
      rw [if_pos (by rw [li10]; exact (nI_ltI (by omega) (by omega)).mpr (by omega)), dig1 _ (by omega)]
      obtain ⟨k1, m1, a1, a2, a3, a4, a5⟩ := put_both hP (by omega) (48 + nI (ask A n f))
      rw [a1, a2, b1_some, b1_some, b1_some, nI_1]
      obtain ⟨k2, m2, b1', b2', b3', b4', b5'⟩ := ih (f + 1) (L + 1) k1 m1 a3 (RM_row (a5.1 2 (by omega) (by omega)) (a5.1 4 (by omega) (by omega)) hR) (hK.lo (fun j hj => a4 j (by omega) (by omega))) ⟨fun i hi => by rw [gt_e, a5.1 7 (by omega) (by omega)]; exact hS.1 i hi, fun i hi => by rw [gt_e, a5.1 8 (by omega) (by omega)]; exact hS.2.1 i hi, fun i hi => by rw [gt_e, a5.1 9 (by omega) (by omega)]; exact hS.2.2.1 i hi, fun i hi => by rw [gt_e, a5.1 10 (by omega) (by omega)]; exact hS.2.2.2 i hi⟩ ⟨fun x y hx hy => by rw [gt_e, a4 158 (by omega) (by omega)]; exact hKM.1 x y hx hy, fun x hx => by rw [gt_e, a4 159 (by omega) (by omega)]; exact hKM.2.1 x hx, fun x hx => by rw [gt_e, a4 160 (by omega) (by omega)]; exact hKM.2.2 x hx⟩ (by omega) (by omega) (by omega)
      exact ⟨k2, m2, b1', b2', by rw [show L + (A 0 2 - f) = L + 1 + (A 0 2 - (f + 1)) by omega]; exact b3', a4.tr b4', a5.tr b5'⟩
    · have hle : nI (A 0 2) ≤ nI f := (nI_leI (by omega) (by omega)).mpr (by omega)
      rw [if_pos hle, if_pos hle]
      exact ⟨k, m, rfl, rfl, by rw [show L + (A 0 2 - f) = L by omega]; exact hP, Gk.rf, Gm.rf⟩
theorem RS.g {D : Ab} {m m2 : St} (h : RS D m) (g : Gm m m2) : RS D m2 := ⟨fun i hi => by rw [gt_e, g.1 7 (by omega) (by omega)]; exact h.1 i hi, fun i hi => by rw [gt_e, g.1 8 (by omega) (by omega)]; exact h.2.1 i hi, fun i hi => by rw [gt_e, g.1 9 (by omega) (by omega)]; exact h.2.2.1 i hi, fun i hi => by rw [gt_e, g.1 10 (by omega) (by omega)]; exact h.2.2.2 i hi⟩
theorem KM.g {A : Ab} {k k2 : St} (h : KM A k) (g : Gk k k2) : KM A k2 := ⟨fun x y hx hy => by rw [gt_e, g 158 (by omega) (by omega)]; exact h.1 x y hx hy, fun x hx => by rw [gt_e, g 159 (by omega) (by omega)]; exact h.2.1 x hx, fun x hx => by rw [gt_e, g 160 (by omega) (by omega)]; exact h.2.2 x hx⟩
theorem Gm.rm {A : Ab} {m m2 : St} (g : Gm m m2) (h : RM A m) : RM A m2 := RM_row (g.1 2 (by omega) (by omega)) (g.1 4 (by omega) (by omega)) h
theorem Gk.rk {A : Ab} {s : Nat → Nat} {R : Nat} {k k2 : St} (g : Gk k k2) (h : RK A s R k) : RK A s R k2 := h.lo (fun j hj => g j (by omega) (by omega))
theorem rep11 {A D : Ab} (hG : WFg A) (hM : MS A D) : ∀ (fu n L : Nat) (k m : St), RpI L k m → RM A m → RK A sI (A 0 4) k → RS D m → KM A k → 1 ≤ n → L ≤ 11 * (n - 1) → n ≤ A 0 0 → A 0 0 < n + fu → ∃ k2 m2 L2, Rp_write_L14 fu (nI n) k = some k2 ∧ M_reports_L11 fu (nI n) m = some m2 ∧ RpI L2 k2 m2 ∧ L2 ≤ 165 ∧ Gk k k2 ∧ Gm m m2 := by
  have hN := hG.1.1.1
  intro fu
  induction fu with
  | zero => intro f L k m _ _ _ _ _ _ _ h1 h2; omega
  | succ fu ih =>
    intro n L k m hP hR hK hS hKM hn1 hL h1 h2
    rw [Rp_write_L14, M_reports_L11]; unfold Rp_write_B14 M_reports_B11
    rw [rd_at 0 li0 (by omega) (by omega), b1_some, hR.g0, hK.n0]
    by_cases e : n < A 0 0
    · have hle : ¬ nI (A 0 0) ≤ nI n := fun z => by have := (nI_leI (by omega) (by omega)).mp z; omega
      rw [if_neg hle, if_neg hle, rd_n (by omega) (by omega), b1_some, hK.tin (by omega), M_isIn_e (par_bd hG.1.1 hG.1.2.1) hR (by omega), b1_some]
      by_cases c : A 10 n = 0
      · rw [if_pos c, if_pos rfl, if_pos rfl, nI_1]
        exact ih (n + 1) L k m hP hR hK hS hKM (by omega) (by omega) (by omega) (by omega)
      · have hin : inT A n := ⟨by omega, c⟩
        have hup := inT_up hG.1.1 hG.1.2.1 hin (by omega)
        rw [if_neg c, if_neg (by decide), if_neg (by decide)]
        unfold Rp_writeLine
        obtain ⟨k1, m1, L1, a1, a2, a3, a4, a5, a6, a7⟩ := num_both (n := n) hP (by omega) (by omega)
        have hR1 := a7.rm hR
        have hK1 := a6.rk hK
        -- the class does it in two steps
        have split1 : ∀ (q : St) (z : Int32) (f : St → Option St), (b1 (Rp_putNumber q z) fun q1 => b1 (Rp_put q1 32) fun q2 => f q2) = b1 (b1 (Rp_putNumber q z) fun q1 => Rp_put q1 32) f := fun q z f => by
          cases Rp_putNumber q z with
          | none => rfl
          | some w => rfl
        rw [split1, a1, b1_some, a2, b1_some, M_up_in hG.1.1 hG.1.2.1 hR1 hin (by omega), b1_some, rd_n (by omega) (by omega), b1_some, hK1.up hG.1 hin (by omega)]
        obtain ⟨k2, m2, L2, b1', b2', b3', b4', b5', b6', b7'⟩ := num_both (n := upn A n) a3 (by omega) (by omega)
        rw [split1, b1', b1_some, b2', b1_some]
        obtain ⟨k3, m3, c1, c2, c3, c4, c5⟩ := line48 hG hM hin (fun q9 => b1 (Rp_put q9 10) fun q10 => some q10) (fun y14 q15 => b1 (M_says q15 10) fun q16 => M_reports_L11 fu (y14 + 1) q16) FU 0 L2 k2 m2 b3' (b7'.rm hR1) (b6'.rk hK1) ((hS.g a7).g b7') ((hKM.g a6).g b6') (by omega) (by omega) (by rw [FU_e]; omega)
        rw [show nI 0 = 0 from rfl] at c1 c2
        rw [c1, c2]
        obtain ⟨k4, m4, d1, d2, d3, d4, d5⟩ := put_both c3 (by omega) 10
        rw [d1, d2, b1_some, b1_some, b1_some, nI_1]
        have gk := ((a6.tr b6').tr c4).tr d4
        have gm := ((a7.tr b7').tr c5).tr d5
        obtain ⟨k5, m5, L5, e1, e2, e3, e4, e5, e6⟩ := ih (n + 1) _ k4 m4 d3 (gm.rm hR) (gk.rk hK) (hS.g gm) (hKM.g gk) (by omega) (by omega) (by omega) (by omega)
        exact ⟨k5, m5, L5, e1, e2, e3, e4, gk.tr e5, gm.tr e6⟩
    · have hle : nI (A 0 0) ≤ nI n := (nI_leI (by omega) (by omega)).mpr (by omega)
      rw [if_pos hle, if_pos hle]
      exact ⟨k, m, L, rfl, rfl, hP, by omega, Gk.rf, Gm.rf⟩
theorem report_both {A : Ab} {k m : St} (hG : WFg A) (hR : RM A m) (hK : RK A sI (A 0 4) k) : ∃ k2 m2 L, Rp_write k = some k2 ∧ M_reports m = some m2 ∧ RpI L k2 m2 ∧ L ≤ 165 ∧ RM A m2 ∧ RK A sI (A 0 4) k2 ∧ Fq m m2 ∧ Fp k k2 := by
  have hN := hG.1.1.1
  unfold Rp_write M_reports
  obtain ⟨m1, k1, D, x1, x2, x3, x4, x5, x6, x7, x8, x9⟩ := meas_both hG hR hK
  rw [x1, x2, b1_some, b1_some, lt_e, lt_e]
  have gm : Gm m1 (st m1 0 28 0) := ⟨fun j a b => st_row_ne a, fun i hi => by rw [st_row_same, upd_e, if_neg hi]⟩
  have gk : Gk k1 (st k1 166 4 0) := fun j a b => st_row_ne a
  obtain ⟨k2, m2, L, a1, a2, a3, a4, a5, a6⟩ := rep11 hG x8 FU 1 0 (st k1 166 4 0) (st m1 0 28 0) ⟨gt_st_same, gt_st_same, fun i hi => by omega⟩ (gm.rm x3) (gk.rk x4) (x7.g gm) (x9.g gk) (by omega) (by omega) (by omega) (by rw [FU_e]; omega)
  rw [show nI 1 = 1 from rfl] at a1 a2
  have g1 := gm.tr a6
  have g2 := gk.tr a5
  refine ⟨k2, m2, L, a1, a2, a3, a4, g1.rm x3, g2.rk x4, ⟨fun j hj => by rw [g1.1 j (by omega) (by omega)]; exact x5.1 j (by omega), fun i h1 h2 => by rw [g1.2 i h2]; exact x5.2 i h1 h2⟩, fun j hj => by rw [g2 j (by omega) (by omega)]; exact x6 j (by omega)⟩
theorem sp_reportLength : Sp_reportLength Inv := by
  intro k m hI
  obtain ⟨A, hG, hR, hK, hT, hH⟩ := id hI
  unfold K_reportLength M_reportLength
  obtain ⟨k2, m2, L, a1, a2, a3, a4, a5, a6, a7, a8⟩ := report_both hG hR hK
  rw [a1, a2, b1_some, b1_some, a3.1, a3.2.1]
  exact Q2.done (A := A) ⟨_, k2, m2, rfl, rfl, a5, a6, a7, a8⟩ hG hT hH
theorem sp_reportByte : Sp_reportByte Inv := by
  intro k m v1 hI
  obtain ⟨A, hG, hR, hK, hT, hH⟩ := id hI
  unfold K_reportByte M_reportByte
  by_cases c : (0 : Int32) ≤ v1
  · have h0 : 0 ≤ v1.toInt := by
      have := i32_le.mp c
      rw [show (0 : Int32).toInt = 0 by decide] at this
      exact this
    obtain ⟨k2, m2, L, a1, a2, a3, a4, a5, a6, a7, a8⟩ := report_both hG hR hK
    rw [if_pos c, if_pos c, a1, a2, b1_some, b1_some, a3.1, a3.2.1]
    have fin : ∀ z : Int32, Q2 A k m (some (z, k2)) (some (z, m2)) := fun z => ⟨z, k2, m2, rfl, rfl, a5, a6, a7, a8⟩
    by_cases d : nI L ≤ v1
    · rw [if_pos d, if_pos d]; exact (fin _).done hG hT hH
    · have hd : ¬ (L : Int) ≤ v1.toInt := fun z => d ((le_nI v1 (by omega)).mpr z)
      obtain ⟨j, j1, j2⟩ := arg_in (v := v1) (n := L) (by omega) (by omega)
      rw [if_neg d, if_neg d, j2, rd_n (by omega) (by omega), b1_some, rd_n (by omega) (by omega), b1_some, a3.2.2 j j1]
      exact (fin _).done hG hT hH
  · rw [if_neg c, if_neg c]
    exact ⟨-1, k, m, rfl, rfl, hI⟩
