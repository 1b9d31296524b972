/-! ===== PHASE B: measuring, in the class ===== -/
def F1 (k k2 : St) : Prop := (∀ j, j ≠ 158 → k2.1 j = k.1 j) ∧ k2.2 = k.2
theorem F1.rf {k : St} : F1 k k := ⟨fun _ _ => rfl, rfl⟩
theorem F1.tr {a b c : St} (h : F1 a b) (h2 : F1 b c) : F1 a c := ⟨fun j x => (h2.1 j x).trans (h.1 j x), h2.2.trans h.2⟩
theorem F1.s {a b : St} (h : F1 a b) : FS a b := ⟨fun j x => h.1 j (by omega), h.2⟩
theorem F1.st {k : St} {i : Nat} {v : Int32} : F1 k (st k 158 i v) := ⟨fun j x => st_row_ne x, rfl⟩
def KD (D : Nat → Nat → Nat) (k : St) : Prop := ∀ n f, n < 16 → f < 4 → gt k 158 (n * 4 + f) = nI (D n f) ∧ D n f ≤ 5
def upd2 (D : Nat → Nat → Nat) (n f v : Nat) : Nat → Nat → Nat := fun a b => if a = n ∧ b = f then v else D a b
theorem Fl_need_e {D : Nat → Nat → Nat} {k : St} (h : KD D k) {n f v : Nat} (hn : n < 16) (hf : f < 4) (hv : v ≤ 5) : ∃ k2, Fl_need k (nI n) (nI f) (nI v) = some k2 ∧ KD (upd2 D n f (max (D n f) v)) k2 ∧ F1 k k2 := by
  obtain ⟨e, hb⟩ := h n f hn hf
  unfold Fl_need
  rw [lt_e, li4]
  simp (disch := omega) only [b1_some, b2_some, lt_e, rd_n, wr_n, nI_add, pk_mul, nI_leI, nI_ltI, nI_eq, nI_1, e]
  by_cases c : v ≤ D n f
  · rw [if_pos c]
    refine ⟨k, rfl, fun a b ha hb2 => ?_, F1.rf⟩
    unfold upd2
    by_cases d : a = n ∧ b = f
    · rw [if_pos d, d.1, d.2]; exact ⟨by rw [e, show max (D n f) v = D n f by omega], by omega⟩
    · rw [if_neg d]; exact h a b ha hb2
  · rw [if_neg c]
    refine ⟨_, rfl, fun a b ha hb2 => ?_, F1.st⟩
    unfold upd2
    by_cases d : a = n ∧ b = f
    · rw [if_pos d, d.1, d.2, gt_st_same]; exact ⟨by rw [show max (D n f) v = v by omega], by omega⟩
    · rw [if_neg d, gt_st_i (by omega)]; exact h a b ha hb2
theorem pK_up {A : Ab} (hs : WFs A) (ht : WFt A) {n : Nat} (hn : inT A n) (h0 : n ≠ 0) : pK (A 10 n) = nI (upn A n) := by
  have := (inT_up hs ht hn h0).1
  unfold pK; rw [if_neg (by omega)]; rfl
theorem pK_0 {A : Ab} (ht : WFt A) : pK (A 10 0) = -1 := by rw [ht.1]; rfl
theorem upd2_iff {D : Nat → Nat → Nat} {n f v k a b : Nat} : k ≤ upd2 D n f (max (D n f) v) a b ↔ k ≤ D a b ∨ (k ≤ v ∧ a = n ∧ b = f) := by
  unfold upd2
  by_cases d : a = n ∧ b = f
  · rw [if_pos d, d.1, d.2]; constructor
    · intro h
      by_cases q : k ≤ D n f
      · exact Or.inl q
      · exact Or.inr ⟨by omega, rfl, rfl⟩
    · rintro (h | ⟨h, _⟩) <;> omega
  · rw [if_neg d]; exact ⟨Or.inl, fun h => h.elim id (fun q => absurd q.2 d)⟩
theorem carry22 {A : Ab} {s : Nat → Nat} {R : Nat} (hA : WF A) (hg : Sg A s R) {r : Nat} (hr : r < R) (hl : 0 < A 14 (s r)) : ∀ (fu i : Nat) (k : St) (D : Nat → Nat → Nat), RK A s R k → KD D k → i ≤ dep A (A 11 (s r)) → dep A (A 11 (s r)) + 1 < i + fu → ∃ (k2 : St) (D2 : Nat → Nat → Nat), Fl_carryUp_L22 fu (nI r) (nI (fmc A (A 11 (s r)) (A 12 (s r)) i)) (nI (chn A i (A 11 (s r)))) (nI i) k = some k2 ∧ KD D2 k2 ∧ F1 k k2 ∧ ∀ n f y, 1 ≤ y → (y ≤ D2 n f ↔ y ≤ D n f ∨ (y ≤ A 14 (s r) ∧ ∃ h, i ≤ h ∧ h ≤ dep A (A 11 (s r)) ∧ chn A h (A 11 (s r)) = n ∧ (f = fmc A (A 11 (s r)) (A 12 (s r)) h ∨ f = stp A n (fmc A (A 11 (s r)) (A 12 (s r)) h)))) := by
  obtain ⟨hs, ht, hc, hrr⟩ := hA
  have hN := hs.1
  have hR21 := hg.1
  have hs21 := hg.2.1 r hr
  have hx := WFr.in hs hrr hs21 hl
  have hdp := dep_le hs ht hx
  have hw := hrr _ hs21 hl
  intro fu
  induction fu with
  | zero => intro i k D _ _ h1 h2; omega
  | succ fu ih =>
    intro i k D hK hD h1 h2
    have hin := chn_inT hs ht hx h1
    have hn16 := hin.1
    have hfl := fmc_lt hs (x := A 11 (s r)) hw.2.1 i
    rw [Fl_carryUp_L22]; unfold Fl_carryUp_B22
    rw [li16]
    simp (disch := omega) only [b1_some, b2_some, lt_e, rd_n, wr_n, nI_add, pk_mul, nI_leI, nI_ltI, nI_eq, nI_1, hK.lv hr]
    rw [if_neg (by omega), if_neg (nI_neg1 (by omega))]
    obtain ⟨k1, a1, a2, a3⟩ := Fl_need_e hD (n := chn A i (A 11 (s r))) (f := fmc A (A 11 (s r)) (A 12 (s r)) i) (v := A 14 (s r)) hn16 (by omega) (by omega)
    rw [a1, b1_some, li4]
    have hK1 := a3.s.rk hK
    simp (disch := omega) only [b1_some, b2_some, lt_e, rd_n, wr_n, nI_add, pk_mul, nI_leI, nI_ltI, nI_eq, nI_1, hK1.pl hn16 (show fmc A (A 11 (s r)) (A 12 (s r)) i < 4 by omega)]
    have hpl := hc.2 (chn A i (A 11 (s r))) (fmc A (A 11 (s r)) (A 12 (s r)) i) hn16 (by omega)
    -- going up
    have go : ∀ (k2 : St) (D2 : Nat → Nat → Nat), RK A s R k2 → KD D2 k2 → F1 k k2 → (∀ n f y, 1 ≤ y → (y ≤ D2 n f ↔ y ≤ D n f ∨ (y ≤ A 14 (s r) ∧ n = chn A i (A 11 (s r)) ∧ (f = fmc A (A 11 (s r)) (A 12 (s r)) i ∨ f = stp A n (fmc A (A 11 (s r)) (A 12 (s r)) i))))) → ∃ (k3 : St) (D3 : Nat → Nat → Nat), Fl_carryUp_J82 (Fl_carryUp_L22 fu) (nI r) (nI (fmc A (A 11 (s r)) (A 12 (s r)) (i + 1))) (nI (chn A i (A 11 (s r)))) (nI i) k2 = some k3 ∧ KD D3 k3 ∧ F1 k k3 ∧ ∀ n f y, 1 ≤ y → (y ≤ D3 n f ↔ y ≤ D n f ∨ (y ≤ A 14 (s r) ∧ ∃ h, i ≤ h ∧ h ≤ dep A (A 11 (s r)) ∧ chn A h (A 11 (s r)) = n ∧ (f = fmc A (A 11 (s r)) (A 12 (s r)) h ∨ f = stp A n (fmc A (A 11 (s r)) (A 12 (s r)) h)))) := fun k2 D2 hK2 hD2 hF2 hq => by
      unfold Fl_carryUp_J82
      simp (disch := omega) only [b1_some, b2_some, lt_e, rd_n, wr_n, nI_add, pk_mul, nI_leI, nI_ltI, nI_eq, nI_1, hK2.par hn16]
      by_cases e : i = dep A (A 11 (s r))
      · have h0 : chn A i (A 11 (s r)) = 0 := by rw [e]; exact hdp.2.1
        rw [h0, pK_0 ht]
        refine ⟨k2, D2, ?_, hD2, hF2, fun n f y hy => ?_⟩
        · cases fu with
          | zero => omega
          | succ fu =>
            rw [Fl_carryUp_L22]; unfold Fl_carryUp_B22
            rw [if_pos rfl]
            split <;> rfl
        · rw [hq n f y hy]
          constructor
          · rintro (q | ⟨q1, q2, q3⟩)
            · exact Or.inl q
            · exact Or.inr ⟨q1, i, by omega, by omega, q2.symm, q3⟩
          · rintro (q | ⟨q1, h, q2, q3, q4, q5⟩)
            · exact Or.inl q
            · have : h = i := by omega
              subst this
              exact Or.inr ⟨q1, q4.symm, q5⟩
      · have h0 : chn A i (A 11 (s r)) ≠ 0 := hdp.2.2 i (by omega)
        rw [pK_up hs ht hin h0, ← chn_succ]
        obtain ⟨k3, D3, b1', b2', b3', b4'⟩ := ih (i + 1) k2 D2 hK2 hD2 (by omega) (by omega)
        refine ⟨k3, D3, b1', b2', hF2.tr b3', fun n f y hy => ?_⟩
        rw [b4' n f y hy, hq n f y hy]
        constructor
        · rintro ((q | ⟨q1, q2, q3⟩) | ⟨q1, h, q2, q3, q4, q5⟩)
          · exact Or.inl q
          · exact Or.inr ⟨q1, i, by omega, by omega, q2.symm, q3⟩
          · exact Or.inr ⟨q1, h, by omega, q3, q4, q5⟩
        · rintro (q | ⟨q1, h, q2, q3, q4, q5⟩)
          · exact Or.inl (Or.inl q)
          · by_cases w : h = i
            · subst w
              exact Or.inl (Or.inr ⟨q1, q4.symm, q5⟩)
            · exact Or.inr ⟨q1, h, by omega, q3, q4, q5⟩
    by_cases c : A 9 (4 * chn A i (A 11 (s r)) + fmc A (A 11 (s r)) (A 12 (s r)) i) = 1
    · rw [c, if_neg (by decide), hK1.lv hr]
      have hz : fmc A (A 11 (s r)) (A 12 (s r)) i ≠ 0 := by have := (hpl.2 c).2.1; omega
      have hst : stp A (chn A i (A 11 (s r))) (fmc A (A 11 (s r)) (A 12 (s r)) i) = 0 := if_pos ⟨hz, c⟩
      obtain ⟨k2, b1', b2', b3'⟩ := Fl_need_e a2 (n := chn A i (A 11 (s r))) (f := 0) (v := A 14 (s r)) hn16 (by omega) (by omega)
      rw [show (0 : Int32) = nI 0 from rfl, b1', b1_some]
      have := go k2 _ (b3'.s.rk hK1) b2' (a3.tr b3') (fun n f y hy => by
        rw [upd2_iff, upd2_iff]
        constructor
        · rintro ((q | ⟨q1, q2, q3⟩) | ⟨q1, q2, q3⟩)
          · exact Or.inl q
          · exact Or.inr ⟨q1, q2, Or.inl q3⟩
          · exact Or.inr ⟨q1, q2, Or.inr (by rw [q2, hst]; exact q3)⟩
        · rintro (q | ⟨q1, q2, q3 | q3⟩)
          · exact Or.inl (Or.inl q)
          · exact Or.inl (Or.inr ⟨q1, q2, q3⟩)
          · rw [q2, hst] at q3; exact Or.inr ⟨q1, q2, q3⟩)
      rw [fmc, hst] at this
      exact this
    · rw [if_pos (by rw [show A 9 (4 * chn A i (A 11 (s r)) + fmc A (A 11 (s r)) (A 12 (s r)) i) = 0 by omega]; rfl)]
      have hst : stp A (chn A i (A 11 (s r))) (fmc A (A 11 (s r)) (A 12 (s r)) i) = fmc A (A 11 (s r)) (A 12 (s r)) i := if_neg (fun z => c z.2)
      have := go k1 _ hK1 a2 a3 (fun n f y hy => by
        rw [upd2_iff]
        constructor
        · rintro (q | ⟨q1, q2, q3⟩)
          · exact Or.inl q
          · exact Or.inr ⟨q1, q2, Or.inl q3⟩
        · rintro (q | ⟨q1, q2, q3 | q3⟩)
          · exact Or.inl q
          · exact Or.inr ⟨q1, q2, q3⟩
          · rw [q2, hst] at q3; exact Or.inr ⟨q1, q2, q3⟩)
      rw [fmc, hst] at this
      exact this
theorem Fl_carryUp_e {A : Ab} {s : Nat → Nat} {R : Nat} (hA : WF A) (hg : Sg A s R) {r : Nat} (hr : r < R) {k : St} {D : Nat → Nat → Nat} (hK : RK A s R k) (hD : KD D k) : ∃ (k2 : St) (D2 : Nat → Nat → Nat), Fl_carryUp k (nI r) = some k2 ∧ KD D2 k2 ∧ F1 k k2 ∧ ∀ n f y, 1 ≤ y → (y ≤ D2 n f ↔ y ≤ D n f ∨ (y ≤ A 14 (s r) ∧ ∃ g, Arr A (s r) n g ∧ (f = g ∨ f = stp A n g))) := by
  have hR21 := hg.1
  have hl14 := hA.l14 _ (hg.2.1 r hr)
  have h1112 := hg.2.2.2.2 r hr
  have hN := hA.1.1
  unfold Fl_carryUp Sp_pathStart
  simp (disch := omega) only [b1_some, b2_some, lt_e, rd_n, wr_n, nI_add, pk_mul, nI_leI, nI_ltI, nI_eq, nI_1, hK.fm hr, hK.lv hr, hK.nd hr, li0]
  by_cases c : A 14 (s r) = 0
  · rw [if_pos (by omega), b1_some]
    refine ⟨k, D, ?_, hD, F1.rf, fun n f y hy => ⟨Or.inl, fun h => h.elim id (fun q => by omega)⟩⟩
    rw [FU_e, Fl_carryUp_L22]; unfold Fl_carryUp_B22
    rw [if_neg (by decide), if_pos rfl]
  · rw [if_neg (by omega), b1_some]
    have hx := WFr.in hA.1 hA.2.2.2 (hg.2.1 r hr) (by omega)
    have hdp := (dep_le hA.1 hA.2.1 hx).1
    obtain ⟨k2, D2, a1, a2, a3, a4⟩ := carry22 hA hg hr (by omega) FU 0 k D hK hD (by omega) (by rw [FU_e]; omega)
    refine ⟨k2, D2, a1, a2, a3, fun n f y hy => ?_⟩
    rw [a4 n f y hy]
    constructor
    · rintro (q | ⟨q1, h, q2, q3, q4, q5⟩)
      · exact Or.inl q
      · exact Or.inr ⟨q1, _, ⟨h, q3, q4, rfl⟩, q5⟩
    · rintro (q | ⟨q1, g, ⟨h, q2, q3, q4⟩, q5⟩)
      · exact Or.inl q
      · subst q4; exact Or.inr ⟨q1, h, by omega, q2, q3, q5⟩
theorem meas26 {A : Ab} {s : Nat → Nat} {R : Nat} (hA : WF A) (hg : Sg A s R) (kk : St → Option St) : ∀ (fu r : Nat) (k : St) (D : Nat → Nat → Nat), RK A s R k → KD D k → (∀ n f y, 1 ≤ y → (y ≤ D n f ↔ ∃ q, q < r ∧ y ≤ A 14 (s q) ∧ ∃ g, Arr A (s q) n g ∧ (f = g ∨ f = stp A n g))) → r ≤ R → R < r + fu → ∃ (k2 : St) (D2 : Nat → Nat → Nat), Fl_measure_L26 kk fu (nI r) k = kk k2 ∧ KD D2 k2 ∧ F1 k k2 ∧ ∀ n f y, 1 ≤ y → (y ≤ D2 n f ↔ ∃ q, q < R ∧ y ≤ A 14 (s q) ∧ ∃ g, Arr A (s q) n g ∧ (f = g ∨ f = stp A n g)) := by
  have hR21 := hg.1
  intro fu
  induction fu with
  | zero => intro r k D _ _ _ h1 h2; omega
  | succ fu ih =>
    intro r k D hK hD hq h1 h2
    rw [Fl_measure_L26]; unfold Fl_measure_B26
    rw [hK.rcv]
    simp (disch := omega) only [b1_some, b2_some, lt_e, rd_n, wr_n, nI_add, pk_mul, nI_leI, nI_ltI, nI_eq, nI_1]
    by_cases e : r < R
    · rw [if_neg (by omega)]
      obtain ⟨k1, D1, a1, a2, a3, a4⟩ := Fl_carryUp_e hA hg e hK hD
      rw [a1, b1_some]
      obtain ⟨k2, D2, b1', b2', b3', b4'⟩ := ih (r + 1) k1 D1 (a3.s.rk hK) a2 (fun n f y hy => by
        rw [a4 n f y hy, hq n f y hy]
        constructor
        · rintro (⟨q, x, z⟩ | z)
          · exact ⟨q, by omega, z⟩
          · exact ⟨r, by omega, z⟩
        · rintro ⟨q, x, z⟩
          by_cases w : q = r
          · subst w; exact Or.inr z
          · exact Or.inl ⟨q, by omega, z⟩) (by omega) (by omega)
      exact ⟨k2, D2, b1', b2', a3.tr b3', b4'⟩
    · rw [if_pos (by omega)]
      have : r = R := by omega
      subst this
      exact ⟨k, D, rfl, hD, F1.rf, hq⟩
/-- measured: demands, loads of links, loads of nodes -/
def KM (A : Ab) (k : St) : Prop := (∀ n f, n < 16 → f < A 0 2 → gt k 158 (n * 4 + f) = nI (dmd A n f)) ∧ (∀ l, l < A 0 1 → gt k 159 l = nI (lld A l)) ∧ ∀ n, n < A 0 0 → gt k 160 n = nI (cld A n)
/-- loads, summed up to format g -/
def slK (A : Ab) (n : Nat) : Nat → Nat
  | 0 => 0
  | f + 1 => if A 9 (4 * n + f) = 1 then slK A n f else slK A n f + rt A f (dmd A n f)
def csK (A : Ab) (n : Nat) : Nat → Nat
  | 0 => 0
  | f + 1 => if A 9 (4 * n + f) = 1 then csK A n f + A 5 f * dmd A n f else csK A n f
theorem slK_e {A : Ab} (hc : WFc A) {n : Nat} (hn : inT A n) : ∀ g, g ≤ 4 → slK A n g = sl A (arD A) n g := by
  intro g
  induction g with
  | zero => intro _; rfl
  | succ g ih =>
    intro hg
    rw [slK, sl, ih (by omega)]
    have hd : dmd A n g = dn A (arD A) n g := if_neg hn.2
    by_cases c : A 9 (4 * n + g) = 1
    · have := (hc.2 n g hn.1 (by omega)).2 c
      rw [if_pos c]; unfold as_; rw [if_pos ⟨by omega, c⟩]; rfl
    · rw [if_neg c, hd]; unfold as_; rw [if_neg (fun z => c z.2)]
theorem csK_e {A : Ab} (hc : WFc A) {n : Nat} (hn : n < 16) : ∀ g, g ≤ 4 → csK A n g = if A 10 n = 0 then 0 else cs A (arD A) n g := by
  intro g
  induction g with
  | zero => intro _; rw [csK, cs]; split <;> rfl
  | succ g ih =>
    intro hg
    rw [csK, cs, ih (by omega)]
    by_cases c : A 9 (4 * n + g) = 1
    · have hp := (hc.2 n g hn (by omega)).2 c
      rw [if_pos c, if_pos (show g ≠ 0 ∧ A 9 (4 * n + g) = 1 from ⟨by omega, c⟩)]
      by_cases z : A 10 n = 0
      · rw [if_pos z, if_pos z, show dmd A n g = 0 from if_pos z]; omega
      · rw [if_neg z, if_neg z, show dmd A n g = dn A (arD A) n g from if_neg z]
        unfold dn; rw [if_neg (by omega)]
    · rw [if_neg c, if_neg (show ¬ (g ≠ 0 ∧ A 9 (4 * n + g) = 1) from fun z => c z.2)]
