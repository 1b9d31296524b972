/-! ===== PHASE B: shortest ways, in the class ===== -/
def F6 (k k2 : St) : Prop := (∀ j, j ≠ 161 → j ≠ 162 → j ≠ 163 → j ≠ 164 → k2.1 j = k.1 j) ∧ k2.2 = k.2
theorem F6.rf {k : St} : F6 k k := ⟨fun _ _ _ _ _ => rfl, rfl⟩
theorem F6.tr {a b c : St} (h : F6 a b) (h2 : F6 b c) : F6 a c := ⟨fun j x y z w => (h2.1 j x y z w).trans (h.1 j x y z w), h2.2.trans h.2⟩
theorem F6.s {a b : St} (h : F6 a b) : FS a b := ⟨fun j x => h.1 j (by omega) (by omega) (by omega) (by omega), h.2⟩
theorem F6.st {k : St} {j i : Nat} {v : Int32} (hj : j = 161 ∨ j = 162 ∨ j = 163 ∨ j = 164) : F6 k (st k j i v) := ⟨fun x a b c d => st_row_ne (by omega), rfl⟩
def gK (A : Ab) (R : Nat) (l v b : Nat) : Bool := decide (A 8 l = 1 ∧ R ≤ A 7 l ∧ A 10 b = 0)
def wK (A : Ab) (l : Nat) : Nat := 64 * A 3 l + 1
def lcK (A : Ab) (R l : Nat) : Nat := if A 8 l = 1 ∧ R ≤ A 7 l then wK A l else 16777216
def EK (A : Ab) (R : Nat) : Nat → Nat → Nat → Prop := Ed (gK A R) (wK A) (A 1) (A 2) (A 0 1)
def rK (A : Ab) (R : Nat) : Nat → (Nat → Nat) → Nat → Nat := rdF (gK A R) (wK A) (A 1) (A 2)
def iK (A : Ab) (R t : Nat) : Nat → Nat → Nat := itF (gK A R) (wK A) (A 1) (A 2) (A 0 1) (x0 16777216 t)
def RLk (A : Ab) (R : Nat) (k : St) : Prop := ∀ l, l < A 0 1 → gt k 162 l = nI (lcK A R l)
def RY (X : Nat → Nat) (k : St) : Prop := ∀ v, v < 16 → gt k 163 v = nI (X v)
theorem RY.st {X X2 : Nat → Nat} {k : St} (h : RY X k) {a y : Nat} (h1 : X2 a = y) (h2 : ∀ u, u ≠ a → X2 u = X u) : RY X2 (st k 163 a (nI y)) := fun v hv => by
  by_cases e : v = a
  · subst e; rw [gt_st_same, h1]
  · rw [gt_st_i e, h2 v e]; exact h v hv
theorem weigh2 {A : Ab} {s : Nat → Nat} {Q : Nat} (hA : WF A) {R : Nat} (hb : R < 2 ^ 30) : ∀ (fu i : Nat) (k : St), RK A s Q k → (∀ l, l < i → gt k 162 l = nI (lcK A R l)) → i ≤ A 0 1 → A 0 1 < i + fu → ∃ k2, Gr_weighLinks_L2 fu (nI R) (nI i) k = some k2 ∧ F6 k k2 ∧ RLk A R k2 := by
  have hN := hA.1.1
  intro fu
  induction fu with
  | zero => intro i k _ _ h1 h2; omega
  | succ fu ih =>
    intro i k hK hl h1 h2
    rw [Gr_weighLinks_L2]; unfold Gr_weighLinks_B2
    rw [hK.n1]
    simp (disch := omega) only [b1_some, b2_some, lt_e, rd_n, wr_n, nI_add, pk_mul, nI_leI, nI_ltI, nI_eq, nI_1]
    by_cases e : i < A 0 1
    · have hcp := hA.2.2.1.1 i e
      rw [if_neg (by omega), li0]
      simp (disch := omega) only [b1_some, b2_some, lt_e, rd_n, wr_n, nI_add, pk_mul, nI_leI, nI_ltI, nI_eq, nI_1, hK.opn e]
      have fin : ∀ y, y = lcK A R i → ∃ k2, Gr_weighLinks_L2 fu (nI R) (nI (i + 1)) (st k 162 i (nI y)) = some k2 ∧ F6 k k2 ∧ RLk A R k2 := fun y hy => by
        have hF : F6 k (st k 162 i (nI y)) := F6.st (by omega)
        obtain ⟨k2, g1, g2, g3⟩ := ih (i + 1) _ (hF.s.rk hK) (fun l hl2 => by
          by_cases d : l = i
          · subst d; rw [gt_st_same, hy]
          · rw [gt_st_i d]; exact hl l (by omega)) (by omega) (by omega)
        exact ⟨k2, g1, hF.tr g2, g3⟩
      have bad : ¬ (A 8 i = 1 ∧ R ≤ A 7 i) → ∃ k2, Gr_weighLinks_J42 (Gr_weighLinks_L2 fu) (nI R) (nI i) k = some k2 ∧ F6 k k2 ∧ RLk A R k2 := fun q => by
        unfold Gr_weighLinks_J42 Gr_weighLinks_J43
        rw [if_pos rfl, li_unr]
        simp (disch := omega) only [b1_some, b2_some, lt_e, rd_n, wr_n, nI_add, pk_mul, nI_leI, nI_ltI, nI_eq, nI_1]
        exact fin _ (by unfold lcK; rw [if_neg q])
      by_cases c1 : A 8 i = 0
      · rw [if_pos c1]; exact bad (by omega)
      · rw [if_neg c1]
        simp (disch := omega) only [b1_some, b2_some, lt_e, rd_n, wr_n, nI_add, pk_mul, nI_leI, nI_ltI, nI_eq, nI_1, hK.cap e]
        by_cases c2 : A 7 i < R
        · rw [if_pos c2]; exact bad (by omega)
        · rw [if_neg c2]
          unfold Gr_weighLinks_J43
          rw [if_neg (by decide), li64]
          simp (disch := omega) only [b1_some, b2_some, lt_e, rd_n, wr_n, nI_add, pk_mul, nI_leI, nI_ltI, nI_eq, nI_1, hK.dl e]
          exact fin _ (by unfold lcK wK; rw [if_pos ⟨by omega, by omega⟩]; omega)
    · rw [if_pos (by omega)]
      exact ⟨k, rfl, F6.rf, fun l hl2 => hl l (by omega)⟩
theorem Gr_shorten_e {A : Ab} {s : Nat → Nat} {Q : Nat} {k : St} (hK : RK A s Q k) {X : Nat → Nat} (hX : RY X k) (hb : ∀ u, X u ≤ 16777216) {a b c : Nat} (ha : a < 16) (hb16 : b < 16) (hc : c ≤ 16777216) : ∃ (k2 : St) (z : Nat), Gr_shorten k (nI a) (nI b) (nI c) = some (nI z, k2) ∧ F6 k k2 ∧ k2.1 162 = k.1 162 ∧ RY (if A 10 b = 0 then rl X a b c else X) k2 ∧ z ≤ 1 ∧ (z = 0 → ∀ u, (if A 10 b = 0 then rl X a b c else X) u = X u) := by
  unfold Gr_shorten
  have ba := hb a
  have bb := hb b
  rw [rd_n (by omega) (by omega), b1_some, hK.tin hb16]
  by_cases d : A 10 b = 0
  · rw [if_pos d, if_pos rfl]
    simp (disch := omega) only [b1_some, b2_some, lt_e, rd_n, wr_n, nI_add, pk_mul, nI_leI, nI_ltI, nI_eq, nI_1, hX a ha, hX b hb16]
    rw [if_pos d]
    by_cases e : X b + c < X a
    · rw [if_pos e]
      refine ⟨_, 1, rfl, F6.st (by omega), st_row_ne (by omega), hX.st (a := a) (by show (if a = a then _ else _) = _; rw [if_pos rfl]; omega) (fun u hu => if_neg hu), by omega, fun z => by omega⟩
    · rw [if_neg e]
      have hrl : ∀ u, rl X a b c u = X u := fun u => by
        unfold rl
        split
        · rename_i q; rw [q]; omega
        · rfl
      refine ⟨k, 0, rfl, F6.rf, rfl, fun v hv => by rw [hrl v]; exact hX v hv, by omega, fun _ u => hrl u⟩
  · rw [if_neg d, if_neg (by decide), if_neg d]
    exact ⟨k, 0, rfl, F6.rf, rfl, hX, by omega, fun _ _ => rfl⟩
theorem or01 {a b : Nat} (ha : a ≤ 1) (hb : b ≤ 1) : nI a ||| nI b = nI (max a b) := by
  rcases (show a = 0 ∨ a = 1 by omega) with rfl | rfl <;> rcases (show b = 0 ∨ b = 1 by omega) with rfl | rfl <;> decide
theorem lcK_lt {A : Ab} (hA : WF A) {R l : Nat} (hl : l < A 0 1) : lcK A R l < 16777216 ↔ (A 8 l = 1 ∧ R ≤ A 7 l) := by
  have := hA.1.2.1 l hl
  unfold lcK wK
  split
  · rename_i c; exact ⟨fun _ => c, fun _ => by omega⟩
  · rename_i c; exact ⟨fun z => by omega, fun z => absurd z c⟩
theorem spread4 {A : Ab} {s : Nat → Nat} {Q : Nat} (hA : WF A) {R : Nat} {X : Nat → Nat} (hXb : ∀ u, X u ≤ 16777216) : ∀ (fu l fl : Nat) (k : St), RK A s Q k → RLk A R k → RY (rK A R l X) k → l ≤ A 0 1 → A 0 1 < l + fu → fl ≤ 1 → ∃ (k2 : St) (fl2 : Nat), Gr_spread_L4 fu (nI fl) (nI l) k = some (nI fl2, k2) ∧ F6 k k2 ∧ RLk A R k2 ∧ RY (rK A R (A 0 1) X) k2 ∧ fl2 ≤ 1 ∧ (fl2 = 0 → fl = 0 ∧ ∀ u, rK A R (A 0 1) X u = rK A R l X u) := by
  have hN := hA.1.1
  intro fu
  induction fu with
  | zero => intro l fl k _ _ _ h1 h2; omega
  | succ fu ih =>
    intro l fl k hK hL hX h1 h2 hfl
    rw [Gr_spread_L4]; unfold Gr_spread_B4
    rw [hK.n1, li_unr]
    simp (disch := omega) only [b1_some, b2_some, lt_e, rd_n, wr_n, nI_add, pk_mul, nI_leI, nI_ltI, nI_eq, nI_1]
    by_cases e : l < A 0 1
    · have hstep : rK A R (l + 1) X = rlk (gK A R) (wK A) (A 1) (A 2) l (rK A R l X) := rfl
      obtain ⟨q1, q2, q3, q4, q5⟩ := hA.1.2.1 l e
      have hlb : lcK A R l ≤ 16777216 := by unfold lcK wK; split <;> omega
      have hxa : ∀ u, rK A R l X u ≤ 16777216 := fun u => Nat.le_trans (rdF_le u l) (hXb u)
      rw [if_neg (by omega)]
      simp (disch := omega) only [b1_some, b2_some, lt_e, rd_n, wr_n, nI_add, pk_mul, nI_leI, nI_ltI, nI_eq, nI_1, hL l e]
      by_cases c : A 8 l = 1 ∧ R ≤ A 7 l
      · have hlt := (lcK_lt hA e).mpr c
        have hlc : lcK A R l = wK A l := if_pos c
        rw [if_neg (by omega)]
        simp (disch := omega) only [b1_some, b2_some, lt_e, rd_n, wr_n, nI_add, pk_mul, nI_leI, nI_ltI, nI_eq, nI_1, hK.e1 e, hK.e2 e]
        obtain ⟨k1, z1, a1, a2, a3, a4, a5, a6⟩ := Gr_shorten_e hK hX hxa (a := A 1 l) (b := A 2 l) (c := lcK A R l) (by omega) (by omega) hlb
        rw [a1, b2_some]
        have hK1 := a2.s.rk hK
        have hL1 : gt k1 162 l = nI (lcK A R l) := by rw [gt_e, a3]; exact hL l e
        have g12 : (gK A R l (A 1 l) (A 2 l) = true) ↔ A 10 (A 2 l) = 0 := by
          unfold gK
          exact ⟨fun z => (of_decide_eq_true z).2.2, fun z => decide_eq_true ⟨c.1, c.2, z⟩⟩
        have g21 : (gK A R l (A 2 l) (A 1 l) = true) ↔ A 10 (A 1 l) = 0 := by
          unfold gK
          exact ⟨fun z => (of_decide_eq_true z).2.2, fun z => decide_eq_true ⟨c.1, c.2, z⟩⟩
        have hY : (if A 10 (A 2 l) = 0 then rl (rK A R l X) (A 1 l) (A 2 l) (lcK A R l) else rK A R l X) = (if gK A R l (A 1 l) (A 2 l) then rl (rK A R l X) (A 1 l) (A 2 l) (wK A l) else rK A R l X) := by
          rw [hlc]
          by_cases w : A 10 (A 2 l) = 0
          · rw [if_pos w, if_pos (g12.mpr w)]
          · rw [if_neg w, if_neg (fun z => w (g12.mp z))]
        rw [hY] at a4 a6
        have hyb : ∀ u, (if gK A R l (A 1 l) (A 2 l) then rl (rK A R l X) (A 1 l) (A 2 l) (wK A l) else rK A R l X) u ≤ 16777216 := fun u => by
          split
          · exact Nat.le_trans (rl_le u) (hxa u)
          · exact hxa u
        obtain ⟨k2, z2, b1', b2', b3', b4', b5', b6'⟩ := Gr_shorten_e hK1 a4 hyb (a := A 2 l) (b := A 1 l) (c := lcK A R l) (by omega) (by omega) hlb
        rw [or01 hfl a5, hL1, b1', b2_some, or01 (by omega) b5']
        have hfin : (if A 10 (A 1 l) = 0 then rl (if gK A R l (A 1 l) (A 2 l) then rl (rK A R l X) (A 1 l) (A 2 l) (wK A l) else rK A R l X) (A 2 l) (A 1 l) (lcK A R l) else (if gK A R l (A 1 l) (A 2 l) then rl (rK A R l X) (A 1 l) (A 2 l) (wK A l) else rK A R l X)) = rK A R (l + 1) X := by
          rw [hstep, hlc]
          unfold rlk
          by_cases w : A 10 (A 1 l) = 0
          · rw [if_pos w, if_pos (g21.mpr w)]
          · rw [if_neg w, if_neg (fun z => w (g21.mp z))]
        rw [hfin] at b4' b6'
        have hL2 : RLk A R k2 := fun j hj => by rw [gt_e, b3', a3]; exact hL j hj
        obtain ⟨k3, fl3, c1, c2, c3, c4, c5, c6⟩ := ih (l + 1) (max (max fl z1) z2) k2 (b2'.s.rk hK1) hL2 b4' (by omega) (by omega) (by omega)
        refine ⟨k3, fl3, c1, (a2.tr b2').tr c2, c3, c4, c5, fun z => ?_⟩
        obtain ⟨w1, w2⟩ := c6 z
        refine ⟨by omega, fun u => ?_⟩
        rw [w2 u, b6' (by omega) u, a6 (by omega) u]
      · have hnl : ¬ lcK A R l < 16777216 := fun z => c ((lcK_lt hA e).mp z)
        rw [if_pos (by omega)]
        have hsame : rK A R (l + 1) X = rK A R l X := by
          rw [hstep]
          unfold rlk
          have z1 : ¬ gK A R l (A 1 l) (A 2 l) = true := fun z => c (by have z := of_decide_eq_true z; exact ⟨z.1, z.2.1⟩)
          have z2 : ¬ gK A R l (A 2 l) (A 1 l) = true := fun z => c (by have z := of_decide_eq_true z; exact ⟨z.1, z.2.1⟩)
          rw [if_neg z2, if_neg z1]
        obtain ⟨k3, fl3, c1, c2, c3, c4, c5, c6⟩ := ih (l + 1) fl k hK hL (by rw [hsame]; exact hX) (by omega) (by omega) hfl
        exact ⟨k3, fl3, c1, c2, c3, c4, c5, fun z => ⟨(c6 z).1, fun u => by rw [(c6 z).2 u, hsame]⟩⟩
    · rw [if_pos (by omega)]
      have : l = A 0 1 := by omega
      subst this
      refine ⟨k, fl, ?_, F6.rf, hL, hX, hfl, fun z => ⟨z, fun _ => rfl⟩⟩
      unfold bz
      rw [if_pos (by rcases (show fl = 0 ∨ fl = 1 by omega) with rfl | rfl; exact Or.inl rfl; exact Or.inr rfl)]
theorem EK_sp {A : Ab} (hs : WFs A) {R v b c : Nat} (h : EK A R v b c) : v < 16 ∧ b < 16 ∧ v < A 0 0 ∧ b < A 0 0 ∧ A 10 b = 0 ∧ ∃ l, Lk A v b l ∧ A 8 l = 1 ∧ R ≤ A 7 l ∧ c = wK A l ∧ A 3 l ≤ 99 := by
  have hN := hs.1
  obtain ⟨l, h1, h2, h3, h4⟩ := h
  have h3 := of_decide_eq_true h3
  have h5 := hs.2.1 l h1
  refine ⟨?_, ?_, ?_, ?_, h3.2.2, l, ⟨h1, ?_⟩, h3.1, h3.2.1, h2, h5.2.2.2.2⟩
  · rcases h4 with h4 | h4 <;> omega
  · rcases h4 with h4 | h4 <;> omega
  · rcases h4 with h4 | h4 <;> omega
  · rcases h4 with h4 | h4 <;> omega
  · rcases h4 with h4 | h4
    · exact Or.inl ⟨h4.1.symm, h4.2.symm⟩
    · exact Or.inr ⟨h4.2.symm, h4.1.symm⟩
theorem EK_of {A : Ab} {R v b l : Nat} (h : Lk A v b l) (h1 : A 8 l = 1) (h2 : R ≤ A 7 l) (h4 : A 10 b = 0) : EK A R v b (wK A l) :=
  ⟨l, h.1, rfl, decide_eq_true ⟨h1, h2, h4⟩, h.2.elim (fun x => Or.inl ⟨x.1.symm, x.2.symm⟩) (fun x => Or.inr ⟨x.2.symm, x.1.symm⟩)⟩
/-- settled costs of the class -/
def Stl (A : Ab) (R t : Nat) (X : Nat → Nat) : Prop := Snd (EK A R) t 16777216 X ∧ Cls (EK A R) X ∧ ∀ u, X u ≤ 16777216
theorem iK_le {A : Ab} {R t : Nat} (i u : Nat) : iK A R t i u ≤ 16777216 := by
  have := itF_mono (g := gK A R) (wt := wK A) (e1 := A 1) (e2 := A 2) (L := A 0 1) (X := x0 16777216 t) u i 0
  rw [Nat.zero_add] at this
  refine Nat.le_trans this ?_
  show x0 16777216 t u ≤ 16777216
  unfold x0; split <;> omega
theorem iK_snd {A : Ab} {R t : Nat} (i : Nat) : Snd (EK A R) t 16777216 (iK A R t i) := by
  have h0 : Snd (EK A R) t 16777216 (x0 16777216 t) := ⟨if_pos rfl, fun v hv => by
    by_cases e : v = t
    · exact Or.inl e
    · unfold x0 at hv; rw [if_neg e] at hv; omega⟩
  exact itF_snd h0 (fun u => by unfold x0; split <;> omega) i
theorem find26 {A : Ab} {s : Nat → Nat} {Q : Nat} (hA : WF A) {R t : Nat} (ht16 : t < 16) (kk : Int32 → St → Option (Int32 × St)) : ∀ (fu i fl : Nat) (k : St), RK A s Q k → RLk A R k → RY (iK A R t i) k → i ≤ 16 → 16 < i + fu → fl ≤ 1 → (fl = 0 → Cls (EK A R) (iK A R t i)) → ∃ (k2 : St) (X : Nat → Nat), Gr_findPath_L26 kk fu (nI t) (nI fl) (nI i) k = kk (nI t) k2 ∧ F6 k k2 ∧ RLk A R k2 ∧ RY X k2 ∧ Stl A R t X := by
  have hN := hA.1.1
  intro fu
  induction fu with
  | zero => intro i fl k _ _ _ h1 h2; omega
  | succ fu ih =>
    intro i fl k hK hL hX h1 h2 hfl hcl
    rw [Gr_findPath_L26]; unfold Gr_findPath_B26
    rw [li16, li0]
    simp (disch := omega) only [b1_some, b2_some, lt_e, rd_n, wr_n, nI_add, pk_mul, nI_leI, nI_ltI, nI_eq, nI_1]
    by_cases e : i < 16
    · rw [if_neg (by omega)]
      by_cases d : fl = 0
      · rw [if_pos d]
        exact ⟨k, _, rfl, F6.rf, hL, hX, iK_snd i, hcl d, iK_le i⟩
      · rw [if_neg d]
        unfold Gr_spread
        obtain ⟨k1, fl1, a1, a2, a3, a4, a5, a6⟩ := spread4 hA (iK_le (A := A) (R := R) (t := t) i) FU 0 0 k hK hL hX (by omega) (by rw [FU_e]; omega) (by omega)
        rw [show nI 0 = 0 from rfl] at a1
        rw [a1, b2_some]
        obtain ⟨k2, X, b1', b2', b3', b4', b5'⟩ := ih (i + 1) fl1 k1 (a2.s.rk hK) a3 a4 (by omega) (by omega) a5 (fun z => by
          have hz := (a6 z).2
          intro v b c hvb
          have h1 : iK A R t (i + 1) v ≤ iK A R t i b + c := itF_edge hvb i
          have h2 : iK A R t (i + 1) b = iK A R t i b := hz b
          omega)
        exact ⟨k2, X, b1', a2.tr b2', b3', b4', b5'⟩
    · rw [if_pos (by omega)]
      have : i = 16 := by omega
      subst this
      refine ⟨k, _, rfl, F6.rf, hL, hX, iK_snd 16, ?_, iK_le 16⟩
      have h0 : Snd (EK A R) t 16777216 (x0 16777216 t) := iK_snd 0
      refine itF_cls h0 (fun u => by unfold x0; split <;> omega) ht16 (fun v b c h => ?_) (fun v hv => if_neg (by omega))
      obtain ⟨a, b, _, _, _, l, _, _, _, e, _⟩ := EK_sp hA.1 h
      exact ⟨a, b, by rw [e]; unfold wK; omega⟩
