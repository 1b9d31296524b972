/-! ===== PHASE B: bits (out of kit/laws/BITS.to-paste, the family bt) and pruning in the class ===== -/
def bt (x : Int32) (i : Nat) : Bool := x.toBitVec.getLsbD i
theorem b_ext {x y : Int32} (h : ∀ i, i < 32 → bt x i = bt y i) : x = y := Int32.toBitVec_inj.mp (BitVec.eq_of_getLsbD_eq (fun i hi => h i hi))
theorem b_or (x y : Int32) (i : Nat) : bt (x ||| y) i = (bt x i || bt y i) := by unfold bt; rw [Int32.toBitVec_or, BitVec.getLsbD_or]
theorem b_and (x y : Int32) (i : Nat) : bt (x &&& y) i = (bt x i && bt y i) := by unfold bt; rw [Int32.toBitVec_and, BitVec.getLsbD_and]
theorem b_xor (x y : Int32) (i : Nat) : bt (x ^^^ y) i = (bt x i ^^ bt y i) := by unfold bt; rw [Int32.toBitVec_xor, BitVec.getLsbD_xor]
theorem b_big {x : Int32} {i : Nat} (h : 32 ≤ i) : bt x i = false := BitVec.getLsbD_of_ge _ _ h
theorem b_255 (i : Nat) : bt 255 i = decide (i < 8) := by
  rcases Nat.lt_or_ge i 32 with h | h
  · exact (by decide +kernel : ∀ i, i < 32 → bt 255 i = decide (i < 8)) i h
  · rw [b_big h, decide_eq_false (by omega)]
theorem b_65535 (i : Nat) : bt 65535 i = decide (i < 16) := by
  rcases Nat.lt_or_ge i 32 with h | h
  · exact (by decide +kernel : ∀ i, i < 32 → bt 65535 i = decide (i < 16)) i h
  · rw [b_big h, decide_eq_false (by omega)]
theorem b_m1 : ∀ i, i < 32 → bt (-1) i = true := by decide +kernel
theorem b_0 (i : Nat) : bt 0 i = false := BitVec.getLsbD_zero
theorem s_l : ∀ n, n < 32 → ((nI n &&& 31).toBitVec.smod 32).toNat = n := by decide +kernel
theorem s_u : ∀ n, n < 32 → (((nI n).toUInt32 &&& Int32.toUInt32 31).toBitVec % 32).toNat = n := by decide +kernel
theorem b_shl (n : Nat) (hn : n < 32) (x : Int32) {i : Nat} (hi : i < 32) : bt (x <<< (nI n &&& 31)) i = (decide (n ≤ i) && bt x (i - n)) := by
  unfold bt
  rw [Int32.toBitVec_shiftLeft]
  show (x.toBitVec <<< ((nI n &&& 31).toBitVec.smod 32).toNat).getLsbD i = _
  rw [s_l n hn, BitVec.getLsbD_shiftLeft]
  rcases Nat.lt_or_ge i n with h | h
  · simp [h, Nat.not_le.mpr h]
  · simp [hi, h, Nat.not_lt.mpr h]
theorem b_ushr (n : Nat) (hn : n < 32) (x : Int32) (i : Nat) : bt ((x.toUInt32 >>> ((nI n).toUInt32 &&& Int32.toUInt32 31)).toInt32) i = bt x (n + i) := by
  show (x.toUInt32 >>> ((nI n).toUInt32 &&& Int32.toUInt32 31)).toBitVec.getLsbD i = x.toUInt32.toBitVec.getLsbD (n + i)
  rw [UInt32.toBitVec_shiftRight]
  show (x.toUInt32.toBitVec >>> (((nI n).toUInt32 &&& Int32.toUInt32 31).toBitVec % 32).toNat).getLsbD i = _
  rw [s_u n hn, BitVec.getLsbD_ushiftRight]
theorem b_sshr (n : Nat) (hn : n < 32) (x : Int32) {i : Nat} (hi : i < 32) : bt (x >>> (nI n &&& 31)) i = if n + i < 32 then bt x (n + i) else bt x 31 := by
  unfold bt
  rw [Int32.toBitVec_shiftRight]
  show (x.toBitVec.sshiftRight ((nI n &&& 31).toBitVec.smod 32).toNat).getLsbD i = _
  rw [s_l n hn, BitVec.getLsbD_sshiftRight, BitVec.msb_eq_getLsbD_last]
  simp [hi]
theorem b_one : ∀ i, i < 32 → bt 1 i = decide (i = 0) := by decide +kernel
theorem bit1 (v : Int32) {n : Nat} (hn : n < 32) : ((v >>> (nI n &&& 31)) &&& 1) = if bt v n = true then 1 else 0 := by
  apply b_ext
  intro i hi
  rw [b_and, b_sshr n hn v hi, b_one i hi]
  by_cases e : i = 0
  · subst e
    rw [if_pos (by omega), Nat.add_zero]
    cases bt v n with
    | true => rw [if_pos rfl]; rfl
    | false => rw [if_neg (by decide)]; rfl
  · rw [decide_eq_false e, Bool.and_false]
    split
    · rw [b_one i hi, decide_eq_false e]
    · rw [b_0]
theorem b_set (v : Int32) {a i : Nat} (ha : a < 32) (hi : i < 32) : (bt (v ||| ((1 : Int32) <<< (nI a &&& 31))) i = true) ↔ (bt v i = true ∨ i = a) := by
  rw [b_or, b_shl a ha 1 hi, Bool.or_eq_true, Bool.and_eq_true, decide_eq_true_iff, b_one _ (by omega), decide_eq_true_iff]
  constructor
  · rintro (h | ⟨h1, h2⟩)
    · exact Or.inl h
    · exact Or.inr (by omega)
  · rintro (h | h)
    · exact Or.inl h
    · exact Or.inr (by omega)
/-- the nodes from a node to the source -/
def Pth (A : Ab) (n x : Nat) : Prop := ∃ h, h ≤ dep A n ∧ chn A h n = x
theorem Pth_0 {A : Ab} {x : Nat} : Pth A 0 x ↔ x = 0 := by
  constructor
  · rintro ⟨h, h1, h2⟩
    rw [dep_0] at h1
    have : h = 0 := by omega
    subst this
    exact h2.symm
  · intro e
    exact ⟨0, Nat.zero_le _, e.symm⟩
theorem Pth_up {A : Ab} (hs : WFs A) (ht : WFt A) {n x : Nat} (hn : inT A n) (h0 : n ≠ 0) : Pth A n x ↔ x = n ∨ Pth A (upn A n) x := by
  have hd := dep_up hs ht hn h0
  constructor
  · rintro ⟨h, h1, h2⟩
    cases h with
    | zero => exact Or.inl h2.symm
    | succ h => exact Or.inr ⟨h, by omega, h2⟩
  · rintro (e | ⟨h, h1, h2⟩)
    · exact ⟨0, Nat.zero_le _, e.symm⟩
    · exact ⟨h + 1, by omega, h2⟩
theorem Pth_in {A : Ab} (hs : WFs A) (ht : WFt A) {n x : Nat} (hn : inT A n) (h : Pth A n x) : inT A x := by
  obtain ⟨i, h1, h2⟩ := h
  rw [← h2]; exact chn_inT hs ht hn h1
theorem nodesUp7 {A : Ab} {s : Nat → Nat} {R : Nat} {k : St} (hA : WF A) (hK : RK A s R k) : ∀ n, inT A n → ∀ (fu : Nat) (acc : Int32) (i : Nat), dep A n + 1 < fu → dep A n + i ≤ 15 → ∃ w, Sp_nodesUp_L7 k fu acc (nI n) (nI i) = some w ∧ ∀ x, x < 32 → (bt w x = true ↔ bt acc x = true ∨ Pth A n x) := by
  have hs := hA.1
  have ht := hA.2.1
  have hN := hs.1
  refine up_ind hs ht (fun fu acc i hf hi => ?_) (fun n hn h0 hu ih fu acc i hf hi => ?_)
  · rw [dep_0] at hf hi
    cases fu with
    | zero => omega
    | succ fu =>
      rw [Sp_nodesUp_L7]; unfold Sp_nodesUp_B7
      rw [li16]
      simp (disch := omega) only [b1_some, b2_some, lt_e, rd_n, wr_n, nI_add, pk_mul, nI_leI, nI_ltI, nI_eq, nI_1, hK.par (show 0 < 16 by omega), pK_0 ht]
      rw [if_neg (by omega), if_neg (nI_neg1 (by omega))]
      cases fu with
      | zero => omega
      | succ fu =>
        rw [Sp_nodesUp_L7]; unfold Sp_nodesUp_B7
        refine ⟨acc ||| (1 <<< (nI 0 &&& 31)), ?_, fun x hx => ?_⟩
        · split
          · rfl
          · rw [if_pos rfl]
        · rw [b_set acc (by omega) hx, Pth_0]
  · cases fu with
    | zero => omega
    | succ fu =>
      have hd := dep_up hs ht hn h0
      have hn16 := hn.1
      rw [Sp_nodesUp_L7]; unfold Sp_nodesUp_B7
      rw [li16]
      simp (disch := omega) only [b1_some, b2_some, lt_e, rd_n, wr_n, nI_add, pk_mul, nI_leI, nI_ltI, nI_eq, nI_1, hK.up hA hn h0]
      rw [if_neg (by omega), if_neg (nI_neg1 (by omega))]
      obtain ⟨w, a1, a2⟩ := ih fu (acc ||| (1 <<< (nI n &&& 31))) (i + 1) (by omega) (by omega)
      refine ⟨w, a1, fun x hx => ?_⟩
      rw [a2 x hx, b_set acc (by omega) hx, Pth_up hs ht hn h0, or_assoc]
theorem Sp_nodesUp_e {A : Ab} {s : Nat → Nat} {R : Nat} {k : St} (hA : WF A) (hK : RK A s R k) {n : Nat} (hn : inT A n) : ∃ w, Sp_nodesUp k (nI n) = some w ∧ ∀ x, x < 32 → (bt w x = true ↔ Pth A n x) := by
  have hd := (dep_le hA.1 hA.2.1 hn).1
  obtain ⟨w, a1, a2⟩ := nodesUp7 hA hK n hn FU 0 0 (by rw [FU_e]; omega) (by omega)
  refine ⟨w, a1, fun x hx => ?_⟩
  rw [a2 x hx, b_0]
  simp
theorem Sp_pathStart_e {A : Ab} {s : Nat → Nat} {R : Nat} {k : St} (hA : WF A) (hg : Sg A s R) (hK : RK A s R k) {r : Nat} (hr : r < R) : Sp_pathStart k (nI r) = some (if A 14 (s r) = 0 then -1 else nI (A 11 (s r))) := by
  have hR21 := hg.1
  have hl := hA.l14 (s r) (hg.2.1 r hr)
  unfold Sp_pathStart
  rw [li0]
  simp (disch := omega) only [b1_some, b2_some, lt_e, rd_n, wr_n, nI_add, pk_mul, nI_leI, nI_ltI, nI_eq, nI_1, hK.lv hr, hK.nd hr]
  by_cases c : A 14 (s r) = 0
  · rw [if_pos (by omega), if_pos c]
  · rw [if_neg (by omega), if_neg c]
theorem Sp_pathNodes_e {A : Ab} {s : Nat → Nat} {R : Nat} {k : St} (hA : WF A) (hg : Sg A s R) (hK : RK A s R k) {r : Nat} (hr : r < R) : ∃ w, Sp_pathNodes k (nI r) = some w ∧ ∀ x, x < 32 → (bt w x = true ↔ 0 < A 14 (s r) ∧ Pth A (A 11 (s r)) x) := by
  unfold Sp_pathNodes
  rw [Sp_pathStart_e hA hg hK hr, b1_some]
  by_cases c : A 14 (s r) = 0
  · rw [if_pos c]
    refine ⟨0, ?_, fun x hx => ?_⟩
    · unfold Sp_nodesUp
      rw [show FU = 3999 + 1 from rfl, Sp_nodesUp_L7]; unfold Sp_nodesUp_B7
      rw [if_neg (by decide), if_pos rfl]
      rfl
    · rw [b_0]
      exact ⟨fun z => absurd z (by decide), fun z => by omega⟩
  · rw [if_neg c]
    obtain ⟨w, a1, a2⟩ := Sp_nodesUp_e hA hK (WFr.in hA.1 hA.2.2.2 (hg.2.1 r hr) (by omega))
    rw [a1, b1_some]
    refine ⟨w, rfl, fun x hx => ?_⟩
    rw [a2 x hx]
    exact ⟨fun z => ⟨by omega, z⟩, fun z => z.2⟩
theorem RK_ext {A B : Ab} {s : Nat → Nat} {R : Nat} {k : St} (h1 : ∀ a j, a ≠ 10 → B a j = A a j) (h2 : ∀ j, j < 16 → B 10 j = A 10 j) (h : RK A s R k) : RK B s R k := by
  refine ⟨RKs_es (fun a j x _ => h1 a j (by omega)) h.1, ?_⟩
  obtain ⟨a1, a2, a3, a4, a5, a6, a7⟩ := h.2
  refine ⟨a1, fun r hr => ?_, fun l hl => ?_, fun n f hn hf => ?_, fun n hn => ?_, a6, a7⟩
  · rw [h1 11 _ (by omega), h1 12 _ (by omega), h1 13 _ (by omega), h1 14 _ (by omega), h1 15 _ (by omega)]; exact a2 r hr
  · rw [h1 0 1 (by omega)] at hl
    rw [h1 7 _ (by omega), h1 8 _ (by omega)]; exact a3 l hl
  · rw [h1 9 _ (by omega)]; exact a4 n f hn hf
  · rw [h2 n hn]; exact a5 n hn
theorem prune4 {A : Ab} {s : Nat → Nat} {R : Nat} {k : St} (hA : WF A) (hg : Sg A s R) (hK : RK A s R k) (kk : Int32 → Option St) : ∀ (fu r : Nat) (acc : Int32), (∀ x, x < 32 → (bt acc x = true ↔ x = 0 ∨ ∃ q, q < r ∧ 0 < A 14 (s q) ∧ Pth A (A 11 (s q)) x)) → r ≤ R → R < r + fu → ∃ w, Sp_prune_L4 k kk fu acc (nI r) = kk w ∧ ∀ x, x < 32 → (bt w x = true ↔ x = 0 ∨ ∃ q, q < R ∧ 0 < A 14 (s q) ∧ Pth A (A 11 (s q)) x) := by
  have hR21 := hg.1
  intro fu
  induction fu with
  | zero => intro r acc _ h1 h2; omega
  | succ fu ih =>
    intro r acc ha h1 h2
    rw [Sp_prune_L4]; unfold Sp_prune_B4
    rw [hK.rcv]
    simp (disch := omega) only [b1_some, b2_some, lt_e, rd_n, wr_n, nI_add, pk_mul, nI_leI, nI_ltI, nI_eq, nI_1]
    by_cases e : r < R
    · rw [if_neg (by omega)]
      obtain ⟨w, a1, a2⟩ := Sp_pathNodes_e hA hg hK e
      rw [a1, b1_some]
      refine ih (r + 1) (acc ||| w) (fun x hx => ?_) (by omega) (by omega)
      rw [b_or, Bool.or_eq_true, ha x hx, a2 x hx]
      constructor
      · rintro ((z | ⟨q, z1, z2⟩) | z)
        · exact Or.inl z
        · exact Or.inr ⟨q, by omega, z2⟩
        · exact Or.inr ⟨r, by omega, z⟩
      · rintro (z | ⟨q, z1, z2⟩)
        · exact Or.inl (Or.inl z)
        · by_cases d : q = r
          · subst d; exact Or.inr z2
          · exact Or.inl (Or.inr ⟨q, by omega, z2⟩)
    · rw [if_pos (by omega)]
      have : r = R := by omega
      subst this
      exact ⟨acc, rfl, ha⟩
theorem prune31 {A B : Ab} {s : Nat → Nat} {R : Nat} (hA : WF A) (hB : Prd A B) {w : Int32} (hw : ∀ x, x < 16 → (bt w x = true ↔ Req A x)) : ∀ (fu n : Nat) (k : St), (∃ C, RK C s R k ∧ (∀ a j, a ≠ 10 → C a j = A a j) ∧ ∀ j, j < 16 → C 10 j = if j < n then B 10 j else A 10 j) → n ≤ A 0 0 → A 0 0 < n + fu → ∃ k2, Sp_prune_L31 fu w (nI n) k = some k2 ∧ RK B s R k2 ∧ FK k k2 := by
  have hN := hA.1.1
  intro fu
  induction fu with
  | zero => intro n k _ h1 h2; omega
  | succ fu ih =>
    intro n k hC h1 h2
    obtain ⟨C, c1, c2, c3⟩ := hC
    rw [Sp_prune_L31]; unfold Sp_prune_B31
    rw [c1.n0, c2 0 0 (by omega)]
    simp (disch := omega) only [b1_some, b2_some, lt_e, rd_n, wr_n, nI_add, pk_mul, nI_leI, nI_ltI, nI_eq, nI_1]
    by_cases e : n < A 0 0
    · rw [if_neg (by omega), bit1 w (by omega)]
      by_cases d : bt w n = true
      · rw [if_pos d, if_neg (by decide)]
        refine ih (n + 1) k ⟨C, c1, c2, fun j hj => ?_⟩ (by omega) (by omega)
        rw [c3 j hj]
        by_cases q : j = n
        · subst q
          rw [if_neg (by omega), if_pos (by omega), hB.1.2.2.2 j hj ((hw j hj).mp d)]
        · by_cases q2 : j < n
          · rw [if_pos q2, if_pos (by omega)]
          · rw [if_neg q2, if_neg (by omega)]
      · rw [if_neg d, if_pos rfl]
        obtain ⟨k1, a1, a2, a3, _⟩ := c1.det (n := n) (by omega)
        rw [a1, b1_some]
        obtain ⟨k2, b1', b2', b3'⟩ := ih (n + 1) k1 ⟨_, a2, fun a j ha => by rw [up2_ne (Or.inl ha), c2 a j ha], fun j hj => by
          by_cases q : j = n
          · subst q
            rw [up2_same, if_pos (by omega)]
            apply Classical.byContradiction
            intro z
            exact d ((hw j hj).mpr (hB.2 j hj (fun y => z y.symm)))
          · rw [up2_ne (Or.inr q), c3 j hj]
            by_cases q2 : j < n
            · rw [if_pos q2, if_pos (by omega)]
            · rw [if_neg q2, if_neg (by omega)]⟩ (by omega) (by omega)
        exact ⟨k2, b1', b2', a3.tr b3'⟩
    · rw [if_pos (by omega)]
      have : n = A 0 0 := by omega
      subst this
      refine ⟨k, rfl, RK_ext (fun a j ha => by rw [c2 a j ha, hB.1.1 a ha]) (fun j hj => ?_) c1, FK.rf⟩
      rw [c3 j hj]
      by_cases q : j < A 0 0
      · rw [if_pos q]
      · rw [if_neg q]
        have := out_N hA.1 hA.2.1 hj (by omega)
        rcases hB.1.2.1 j with z | z
        · rw [z]
        · rw [z, this]
theorem Sp_prune_e {A B : Ab} {s : Nat → Nat} {R : Nat} {k : St} (hA : WF A) (hg : Sg A s R) (hK : RK A s R k) (hB : Prd A B) : ∃ k2, Sp_prune k = some k2 ∧ RK B s R k2 ∧ FK k k2 := by
  have hN := hA.1.1
  have hR21 := hg.1
  unfold Sp_prune
  obtain ⟨w, a1, a2⟩ := prune4 hA hg hK (fun y4 => Sp_prune_L31 FU y4 0 k) FU 0 1 (fun x hx => by
    rw [b_one x hx, decide_eq_true_iff]
    exact ⟨Or.inl, fun z => z.elim id (fun ⟨q, z1, _⟩ => by omega)⟩) (by omega) (by rw [FU_e]; omega)
  rw [show nI 0 = 0 from rfl] at a1
  rw [a1]
  refine prune31 hA hB (w := w) (fun x hx => ?_) FU 0 k ⟨A, hK, fun _ _ _ => rfl, fun j _ => by rw [if_neg (by omega)]⟩ (by omega) (by rw [FU_e]; omega)
  rw [a2 x (by omega)]
  unfold Req
  constructor
  · rintro (z | ⟨q, z1, z2, z3⟩)
    · exact Or.inl z
    · exact Or.inr ⟨s q, hg.2.1 q z1, z2, z3⟩
  · rintro (z | ⟨r, z1, z2, z3⟩)
    · exact Or.inl z
    · obtain ⟨q, w1, w2⟩ := hg.2.2.2.1 r z1 z2
      subst w2
      exact Or.inr ⟨q, w1, z2, z3⟩
