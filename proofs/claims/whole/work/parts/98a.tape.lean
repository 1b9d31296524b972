/-! ===== PHASE B: the tape ===== -/
theorem toInt8_eq {x y : Int32} (h : ∀ i, i < 8 → bt x i = bt y i) : x.toInt8 = y.toInt8 := by
  apply Int8.toBitVec_inj.1
  rw [Int32.toBitVec_toInt8, Int32.toBitVec_toInt8]
  apply BitVec.eq_of_getLsbD_eq
  intro i hi
  have := h i hi
  unfold bt at this
  rw [BitVec.getLsbD_signExtend, BitVec.getLsbD_signExtend, if_pos (by omega), if_pos (by omega), this]
theorem b8 (x : Int32) : ∃ b, b < 256 ∧ x &&& 255 = nI b := by
  have hv : x = nI x.toBitVec.toNat := by
    apply Int32.toBitVec_inj.1
    show x.toBitVec = BitVec.ofNat 32 x.toBitVec.toNat
    rw [BitVec.ofNat_toNat, BitVec.setWidth_eq]
  refine ⟨x.toBitVec.toNat % 256, Nat.mod_lt _ (by omega), ?_⟩
  have h2 : nI x.toBitVec.toNat &&& 255 = nI (x.toBitVec.toNat % 256) := by
    rw [show (255 : Int32) = nI 255 from rfl, nx_and, show (255 : Nat) = 2 ^ 8 - 1 from rfl, Nat.and_two_pow_sub_one_eq_mod]
  rw [← hv] at h2
  exact h2
/-- the byte that is put, on both sides -/
theorem byte_both (v : Int32) {n : Nat} (hn : n ≤ 24) : ∃ b, b < 256 ∧ ((v.toUInt32 >>> ((nI n).toUInt32 &&& Int32.toUInt32 31)).toInt32 &&& 255) = nI b ∧ vp_nar .byte ((v >>> (nI n &&& 31))).toInt8.toInt32 = (nI b).toInt8.toInt32 := by
  obtain ⟨b, h1, h2⟩ := b8 ((v.toUInt32 >>> ((nI n).toUInt32 &&& Int32.toUInt32 31)).toInt32)
  refine ⟨b, h1, h2, ?_⟩
  rw [vp_nar_byte]
  have e1 : (v >>> (nI n &&& 31)).toInt8 = (nI b).toInt8 := by
    rw [← h2]
    refine toInt8_eq (fun i hi => ?_)
    rw [b_sshr n (by omega) v (by omega), if_pos (by omega), b_and, b_ushr n (by omega), b_255, decide_eq_true hi, Bool.and_true]
  have e2 : ∀ y : Int8, y.toInt32.toInt8 = y := fun y => by simp
  rw [e1, e2]
def TPR (T : Nat) (k m : St) : Prop := gt m 0 1 = nI T ∧ gt k 153 1 = nI T ∧ ∀ i, i < T → ∃ b, b < 256 ∧ gt k 154 i = nI b ∧ gt m 1 i = (nI b).toInt8.toInt32
def FtK (k k2 : St) : Prop := ∀ j, j ≠ 153 → j ≠ 154 → k2.1 j = k.1 j
def FtM (m m2 : St) : Prop := (∀ j, j ≠ 0 → j ≠ 1 → m2.1 j = m.1 j) ∧ ∀ i, i ≠ 1 → m2.1 0 i = m.1 0 i
def shf (c : Nat) : Int32 := if c = 0 then -8 else nI (8 * (c - 1))
theorem shf_s : ∀ c, c < 4 → nI (8 * c) + -8 = shf c := by decide +kernel
theorem puts3 (v : Int32) : ∀ (c fu T : Nat) (k m : St), TPR T k m → T + c ≤ 1400 → c ≤ 4 → c < fu → ∃ k2 m2, Tp_putWord_L3 fu v (shf c) k = some k2 ∧ M_puts_L3 fu v (shf c) m = some m2 ∧ TPR (T + c) k2 m2 ∧ FtK k k2 ∧ FtM m m2 := by
  intro c
  induction c with
  | zero =>
    intro fu T k m h _ _ hf
    cases fu with
    | zero => omega
    | succ fu =>
      rw [Tp_putWord_L3, M_puts_L3]; unfold Tp_putWord_B3 M_puts_B3
      rw [show shf 0 = -8 from rfl, if_pos (by decide), if_pos (by decide)]
      exact ⟨k, m, rfl, rfl, h, fun _ _ _ => rfl, fun _ _ _ => rfl, fun _ _ => rfl⟩
  | succ c ih =>
    intro fu T k m h hT hc hf
    cases fu with
    | zero => omega
    | succ fu =>
      have hs : shf (c + 1) = nI (8 * c) := by unfold shf; rw [if_neg (by omega)]; rfl
      obtain ⟨b, b1', b2', b3'⟩ := byte_both v (n := 8 * c) (by omega)
      rw [Tp_putWord_L3, M_puts_L3]; unfold Tp_putWord_B3 M_puts_B3
      rw [hs, if_neg (nI_pos (by omega)), if_neg (nI_pos (by omega)), h.1, h.2.1, if_neg (fun z => by rw [li1400] at z; have := (nI_leI (by omega) (by omega)).mp z; omega), b2', b3', wr_n (by omega) (by omega), b1_some, wr_n (by omega) (by omega), b1_some, lt_e, lt_e, gt_st_k (by omega), gt_st_k (by omega), h.1, h.2.1, nI_1, shf_s c (by omega)]
      obtain ⟨k2, m2, a1, a2, a3, a4, a5, a6⟩ := ih fu (T + 1) (st (st k 154 T (nI b)) 153 1 (nI (T + 1))) (st (st m 1 T (nI b).toInt8.toInt32) 0 1 (nI (T + 1))) ⟨gt_st_same, gt_st_same, fun i hi => by
        rw [gt_st_k (show 154 ≠ 153 by omega), gt_st_k (show 1 ≠ 0 by omega)]
        by_cases d : i = T
        · rw [d, gt_st_same, gt_st_same]; exact ⟨b, b1', rfl, rfl⟩
        · rw [gt_st_i d, gt_st_i d]; exact h.2.2 i (by omega)⟩ (by omega) (by omega) (by omega)
      refine ⟨k2, m2, a1, a2, by rw [show T + (c + 1) = T + 1 + c by omega]; exact a3, fun j x y => by rw [a4 j x y, st_row_ne x, st_row_ne y], fun j x y => by rw [a5 j x y, st_row_ne x, st_row_ne y], fun i hi => by rw [a6 i hi, st_row_same, upd_e, if_neg hi, st_row_ne (by omega)]⟩
theorem puts_both {T : Nat} {k m : St} (v : Int32) (h : TPR T k m) (hT : T + 4 ≤ 1400) : ∃ k2 m2, Tp_putWord k v = some k2 ∧ M_puts m v = some m2 ∧ TPR (T + 4) k2 m2 ∧ FtK k k2 ∧ FtM m m2 := by
  obtain ⟨k2, m2, a1, a2, a3⟩ := puts3 v 4 FU T k m h hT (by omega) (by rw [FU_e]; omega)
  exact ⟨k2, m2, a1, a2, a3⟩
theorem FtK.tr {a b c : St} (h : FtK a b) (h2 : FtK b c) : FtK a c := fun j x y => (h2 j x y).trans (h j x y)
theorem FtM.tr {a b c : St} (h : FtM a b) (h2 : FtM b c) : FtM a c := ⟨fun j x y => (h2.1 j x y).trans (h.1 j x y), fun i x => (h2.2 i x).trans (h.2 i x)⟩
theorem Inv.tape {A : Ab} {k m k2 m2 : St} {T : Nat} (hG : WFg A) (hR : RM A m) (hK : RK A sI (A 0 4) k) (hT : Tp k m) (hH : Hs A k m) (h : TPR T k2 m2) (hT2 : T ≤ 1400) (f1 : FtK k k2) (f2 : FtM m m2) : Inv k2 m2 := by
  refine ⟨A, hG, RM_row (f2.1 2 (by omega) (by omega)) (f2.1 4 (by omega) (by omega)) hR, hK.lo (fun j hj => f1 j (by omega) (by omega)), ⟨?_, fun f hf => by rw [gt_e, f1 18 (by omega) (by omega)]; exact hT.2.1 f hf, T, hT2, h⟩, hH.row (fun j a b => f1 j (by omega) (by omega)) (f2.1 6 (by omega) (by omega)) (f2.2 15 (by omega))⟩
  rw [gt_e, gt_e, f1 0 (by omega) (by omega), f2.2 2 (by omega)]; exact hT.1
theorem sp_append : Sp_append Inv := by
  intro k m v1 v2 v3 v4 v5 hI
  obtain ⟨A, hG, hR, hK, hT, hH⟩ := id hI
  obtain ⟨t1, t2, T, hT14, hTP⟩ := id hT
  unfold K_append M_append
  have h0 : TPR T k m := hTP
  rw [h0.1, h0.2.1, li20, nI_add, li1400]
  by_cases c : T + 20 ≤ 1400
  · have hc : nI (T + 20) ≤ nI 1400 := (nI_leI (by omega) (by omega)).mpr c
    rw [if_pos hc, if_pos hc]
    obtain ⟨k1, m1, a1, a2, a3, a4, a5⟩ := puts_both v1 h0 (by omega)
    obtain ⟨k2, m2, b1', b2', b3', b4', b5'⟩ := puts_both v2 a3 (by omega)
    obtain ⟨k3, m3, c1, c2, c3, c4, c5⟩ := puts_both v3 b3' (by omega)
    obtain ⟨k4, m4, d1, d2, d3, d4, d5⟩ := puts_both v4 c3 (by omega)
    obtain ⟨k5, m5, e1, e2, e3, e4, e5⟩ := puts_both v5 d3 (by omega)
    rw [a1, b1_some, b1', b1_some, c1, b1_some, d1, b1_some, e1, b1_some, a2, b1_some, b2', b1_some, c2, b1_some, d2, b1_some, e2, b1_some, e3.1, e3.2.1]
    exact ⟨_, k5, m5, rfl, rfl, Inv.tape hG hR hK hT hH e3 (by omega) ((((a4.tr b4').tr c4).tr d4).tr e4) ((((a5.tr b5').tr c5).tr d5).tr e5)⟩
  · have hc : ¬ nI (T + 20) ≤ nI 1400 := fun z => c ((nI_leI (by omega) (by omega)).mp z)
    rw [if_neg hc, if_neg hc]
    exact ⟨-1, k, m, rfl, rfl, hI⟩
theorem sp_truncate : Sp_truncate Inv := by
  intro k m v1 hI
  obtain ⟨A, hG, hR, hK, hT, hH⟩ := id hI
  obtain ⟨t1, t2, T, hT14, hTP⟩ := id hT
  unfold K_truncate M_truncate
  have h0 : TPR T k m := hTP
  rw [h0.1, h0.2.1, show (0 : Int64) = (0 : Int32).toInt64 by decide, M_in3, b1_some, show (0 : Int32).toInt = 0 by decide, nI_toInt (by omega)]
  by_cases c1 : v1 < 0
  · have := (iff_lt0 v1).mp c1
    rw [if_pos c1, if_neg (show ¬ (0 ≤ v1.toInt ∧ v1.toInt ≤ (T : Int)) by omega), if_pos rfl]
    exact ⟨-1, k, m, rfl, rfl, hI⟩
  · have h1 : ¬ v1.toInt < 0 := fun z => c1 ((iff_lt0 v1).mpr z)
    rw [if_neg c1]
    by_cases c2 : v1 ≤ nI T
    · have h2 := (v_le_nI v1 (by omega)).mp c2
      obtain ⟨j, j1, j2⟩ := arg_in (v := v1) (n := T + 1) (by omega) (by omega)
      rw [if_pos c2, if_pos (show 0 ≤ v1.toInt ∧ v1.toInt ≤ (T : Int) by omega), if_neg (by decide), j2, sub_le (by omega), lt_e, lt_e, gt_st_same, gt_st_same]
      refine ⟨_, _, _, rfl, rfl, Inv.tape hG hR hK hT hH (T := T - j) ⟨gt_st_same, gt_st_same, fun i hi => ?_⟩ (by omega) (fun a x y => st_row_ne x) ⟨fun a x y => st_row_ne x, fun i hi => by rw [st_row_same, upd_e, if_neg hi]⟩⟩
      rw [gt_st_k (show 154 ≠ 153 by omega), gt_st_k (show 1 ≠ 0 by omega)]
      exact h0.2.2 i (by omega)
    · have h2 : ¬ v1.toInt ≤ (T : Int) := fun z => c2 ((v_le_nI v1 (by omega)).mpr z)
      rw [if_neg c2, if_neg (show ¬ (0 ≤ v1.toInt ∧ v1.toInt ≤ (T : Int)) by omega), if_pos rfl]
      exact ⟨-1, k, m, rfl, rfl, hI⟩
