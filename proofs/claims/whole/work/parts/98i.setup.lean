/-! ===== PHASE B: the whole setup ===== -/
theorem def2 : ∀ (fu i : Nat) (m : St), i ≤ 172 → 172 < i + fu → (∀ j, j < i → gt m 3 j = 0) → ∃ m2, M_defaults_L2 fu (nI i) m = some m2 ∧ (∀ j, j < 172 → gt m2 3 j = 0) ∧ (∀ j, j ≠ 3 → j ≠ 0 → m2.1 j = m.1 j) ∧ (∀ j, j ≠ 5 → m2.1 0 j = m.1 0 j) ∧ gt m2 0 5 = 0 := by
  intro fu
  induction fu with
  | zero => intro i m h1 h2; omega
  | succ fu ih =>
    intro i m h1 h2 h3
    rw [M_defaults_L2]; unfold M_defaults_B2
    by_cases e : i < 172
    · rw [if_neg (show ¬ (172 : Int32) ≤ nI i from fun z => by have := (nI_leI (a := 172) (by omega) (by omega)).mp z; omega), wr_n (by omega) (by omega), b1_some, nI_1]
      obtain ⟨m2, a1, a2, a3, a4, a5⟩ := ih (i + 1) (st m 3 i 0) (by omega) (by omega) (fun j hj => by
        by_cases q : j = i
        · rw [q, gt_st_same]
        · rw [gt_st_i q]; exact h3 j (by omega))
      exact ⟨m2, a1, a2, fun j x y => by rw [a3 j x y, st_row_ne x], fun j x => by rw [a4 j x, st_row_ne (by omega)], a5⟩
    · rw [if_pos (show (172 : Int32) ≤ nI i from (nI_leI (a := 172) (by omega) (by omega)).mpr (by omega)), lt_e]
      exact ⟨_, rfl, fun j hj => by rw [gt_st_k (by omega)]; exact h3 j (by omega), fun j x y => st_row_ne y, fun j x => by rw [st_row_same, upd_e, if_neg x], gt_st_same⟩
theorem M_defaults_e (m : St) : ∃ m2, M_defaults m = some m2 ∧ (∀ j, j < 172 → gt m2 3 j = 0) ∧ (∀ j, j ≠ 3 → j ≠ 0 → m2.1 j = m.1 j) ∧ (∀ j, j ≠ 5 → m2.1 0 j = m.1 0 j) ∧ gt m2 0 5 = 0 :=
  def2 FU 0 m (by omega) (by rw [FU_e]; omega) (fun j hj => by omega)
theorem clear_e (o : Nat) (k : St) : ∃ k2, Su_clear o k = some k2 ∧ (∀ i, i < 4 → gt k2 o i = 0) ∧ (∀ i, i < 256 → gt k2 (o + 5) i = -1) ∧ (∀ i, i < 16 → gt k2 (o + 6) i = 0) ∧ ∀ j, j ≠ o → j ≠ o + 5 → j ≠ o + 6 → k2.1 j = k.1 j := by
  unfold Su_clear
  rw [lt_e, lt_e, lt_e, lt_e]
  obtain ⟨k1, a1, a2, _, a3⟩ := J_fill_e (len := 256) (p := o + 5) (v := -1) (st (st (st (st k o 0 0) o 1 0) o 2 0) o 3 0) (by omega)
  obtain ⟨k2, b1', b2', _, b3'⟩ := J_fill_e (len := 16) (p := o + 6) (v := 0) k1 (by omega)
  rw [a1, b1_some, b1', b1_some]
  refine ⟨k2, rfl, fun i hi => ?_, fun i hi => ?_, b3', fun j x y z => ?_⟩
  · rw [gt_e, b2' o (by omega), a2 o (by omega)]
    show gt (st (st (st (st k o 0 0) o 1 0) o 2 0) o 3 0) o i = 0
    by_cases c3 : i = 3
    · rw [c3, gt_st_same]
    · rw [gt_st_i c3]
      by_cases c2 : i = 2
      · rw [c2, gt_st_same]
      · rw [gt_st_i c2]
        by_cases c1 : i = 1
        · rw [c1, gt_st_same]
        · rw [gt_st_i c1, show i = 0 by omega, gt_st_same]
  · rw [gt_e, b2' (o + 5) (by omega)]; exact a3 i hi
  · rw [b2' j z, a2 j y, st_row_ne x, st_row_ne x, st_row_ne x, st_row_ne x]
def kF (q22 : St) : Option St := if (gt q22 0 11) = (0 : Int32) then some q22 else if (gt q22 0 8) = (0 : Int32) then some q22 else lt_ (st q22 0 11 (0 : Int32)) fun q25 => lt_ (st q25 0 2 (gt q25 0 7)) fun q26 => some q26
def kN (q17 : St) : Option St := b1 (M_readNative q17) fun q18 => M_reads_L89 kF FU q18
def kC (q13 : St) : Option St := M_reads_L68 kN FU q13
theorem J48_e (z : Int32) (q : St) : M_reads_J48 z q = b1 (M_takes q z) fun q9 => M_reads_L51 kC FU q9 := rfl
theorem kF_b {q : St} (h : gt q 0 11 = 0) : kF q = some q := if_pos h
theorem FU_s : ∃ f, FU = f + 1 := ⟨FU - 1, by rw [FU_e]⟩
theorem kN_b {q : St} (h : gt q 0 11 = 0) : kN q = some (st q 3 2 1) := by
  obtain ⟨f, hf⟩ := FU_s
  have h2 : gt (st q 3 2 1) 0 11 = 0 := by rw [gt_st_k (by omega)]; exact h
  unfold kN M_readNative
  rw [isWord_b h, b1_some, takes_b h, b1_some, wr_at 2 li2 (by omega) (by omega), b1_some, hf, nL_b (fun _ => rfl) h2, b1_some, forms_b kF h2, kF_b h2]
theorem kC_b {q : St} (h : gt q 0 11 = 0) : kC q = some (st q 3 2 1) := by
  obtain ⟨f, hf⟩ := FU_s
  unfold kC; rw [hf, cpus_b kN h, kN_b h]
theorem BadO.s {k m k2 m2 : St} (h : BadO k m k2 m2) : BadO k m k2 (st m2 3 2 1) := ⟨⟨by rw [gt_st_k (by omega)]; exact h.1.1, by rw [gt_st_k (by omega)]; exact h.1.2⟩, h.2.1, h.2.2.1, h.2.2.2.tr (FpM.r3 (fun j y => st_row_ne y))⟩
def RsO (k m : St) (rk : Option (Int32 × St)) (rm : Option St) : Prop := (∃ A F L k2 m2, rk = some (1, k2) ∧ rm = some m2 ∧ DN A F L k2 m2 ∧ gt m2 0 11 = 1 ∧ FpK k k2 ∧ FpM m m2) ∨ (∃ k2 m2, rk = some (0, k2) ∧ rm = some m2 ∧ BadO k m k2 m2)
theorem RsO.tr {k m k1 m1 : St} {rk : Option (Int32 × St)} {rm : Option St} (h : RsO k1 m1 rk rm) (f1 : FpK k k1) (f2 : FpM m m1) : RsO k m rk rm := by
  rcases h with ⟨A, F, L, k2, m2, h1, h2, h3, h4, h6, h7⟩ | ⟨k2, m2, h1, h2, h3⟩
  · exact Or.inl ⟨A, F, L, k2, m2, h1, h2, h3, h4, f1.tr h6, f2.tr h7⟩
  · exact Or.inr ⟨k2, m2, h1, h2, h3.tr f1 f2⟩
theorem rest_both {T : Nat} {B : Nat → Nat} {A : Ab} {k m : St} (h : PS T B k m) (hd : D1 A k m) (h0 : A 0 1 = 0) (h5 : gt m 0 5 = 0) : RsO k m (b2 (Rd_readLinks k) fun x7 q8 => if x7 = (0 : Int32) then some ((0 : Int32), q8) else b2 (Rd_readCpus q8) fun x10 q11 => if x10 = (0 : Int32) then some ((0 : Int32), q11) else b2 (Rd_readNative q11) fun x13 q14 => if x13 = (0 : Int32) then some ((0 : Int32), q14) else b2 (Rd_readFormats q14) fun x16 q17 => if x16 = (0 : Int32) then some ((0 : Int32), q17) else if (gt q17 155 2) = (0 : Int32) then some ((1 : Int32), q17) else some ((0 : Int32), q17)) (M_reads_L51 kC FU m) := by
  have hL := links_both kC FU A k m h hd (by rw [FU_e]; omega)
  rw [h0] at hL
  unfold Rd_readLinks
  rcases hL with ⟨A2, k2, m2, e1, e2, e3, e4, e5, e6, e7⟩ | ⟨k2, m2, e1, e2, e3⟩
  · have e1 : Rd_readLinks_L2 FU 0 k = some (1, k2) := e1
    rw [e1, b2_some, if_neg (show ¬ (1 : Int32) = 0 by decide), e2]
    refine RsO.tr ?_ e5 e6
    have h52 : gt m2 0 5 = 0 := by rw [gt_e, e7]; exact h5
    unfold kC Rd_readCpus
    have hC := cpus_both kN FU A2 k2 m2 0 e3 e4 (by rw [h52]; exact bc_0 16) (by rw [FU_e]; omega)
    rw [h52] at hC
    rcases hC with ⟨A3, k3, m3, f1, f2, f3, f4, f5, f6⟩ | ⟨k3, m3, f1, f2, f3⟩
    · have f1 : Rd_readCpus_L4 FU 0 0 k2 = some (1, k3) := f1
      rw [f1, b2_some, if_neg (show ¬ (1 : Int32) = 0 by decide), f2]
      refine RsO.tr ?_ f5 f6
      unfold kN
      rcases native_both f3 f4 with ⟨A4, L, k4, m4, g1, g2, g3, g4, g5, g6⟩ | ⟨k4, m4, g1, g2, g3⟩
      · rw [g1, b2_some, if_neg (show ¬ (1 : Int32) = 0 by decide), g2, b1_some]
        refine RsO.tr ?_ g5 g6
        unfold Rd_readFormats
        rcases forms_both kF FU A4 0 L k4 m4 g3 g4 (by rw [FU_e]; omega) with ⟨A5, F, L2, k5, m5, i1, i2, i3, i4, i5, i6⟩ | ⟨k5, m5, i1, i2, i3⟩
        · have i1 : Rd_readFormats_L2 FU 0 k4 = some (1, k5) := i1
          rw [i1, b2_some, if_neg (show ¬ (1 : Int32) = 0 by decide), i2]
          refine RsO.tr ?_ i5 i6
          unfold kF
          rw [i3.2.1, if_neg (show ¬ (1 : Int32) = 0 by decide), i3.kd]
          by_cases c : gt m5 0 8 = 0
          · rw [if_pos c, if_pos c]
            exact Or.inl ⟨A5, F, L2, k5, m5, rfl, rfl, i4, i3.2.1, FpK.rf, FpM.rf⟩
          · rw [if_neg c, if_neg c, lt_e, lt_e, gt_st_i (by omega)]
            exact Or.inr ⟨_, _, rfl, rfl, i3.bad i4.2.2.2.2.2.2⟩
        · have i1 : Rd_readFormats_L2 FU 0 k4 = some (0, k5) := i1
          rw [i1, b2_some, if_pos rfl, i2, kF_b i3.1.1]
          exact Or.inr ⟨_, _, rfl, rfl, i3⟩
      · obtain ⟨f, hf⟩ := FU_s
        rw [g1, b2_some, if_pos rfl, g2, b1_some, hf, forms_b kF g3.1.1, kF_b g3.1.1]
        exact Or.inr ⟨_, _, rfl, rfl, g3⟩
    · have f1 : Rd_readCpus_L4 FU 0 0 k2 = some (0, k3) := f1
      rw [f1, b2_some, if_pos rfl, f2, kN_b f3.1.1]
      exact Or.inr ⟨_, _, rfl, rfl, f3.s⟩
  · have e1 : Rd_readLinks_L2 FU 0 k = some (0, k2) := e1
    rw [e1, b2_some, if_pos rfl, e2, kC_b e3.1.1]
    exact Or.inr ⟨_, _, rfl, rfl, e3.s⟩
def FqM (m m2 : St) : Prop := (∀ j, j ≠ 0 → j ≠ 3 → m2.1 j = m.1 j) ∧ ∀ i, i = 1 ∨ i = 15 → m2.1 0 i = m.1 0 i
def aN (n : Nat) : Ab := fun a j => if a = 0 ∧ j = 0 then n else 0
theorem aN_0 {n : Nat} : aN n 0 0 = n := if_pos ⟨rfl, rfl⟩
theorem aN_z {n a j : Nat} (h : a ≠ 0 ∨ j ≠ 0) : aN n a j = 0 := if_neg (by omega)
theorem setup_both {T : Nat} {B : Nat → Nat} {k m : St} (hT : TB T B k m) (hz : ZR k) : (∃ A F L k2 m2, Rd_readSetup k = some (1, k2) ∧ M_reads m = some m2 ∧ DN A F L k2 m2 ∧ gt m2 0 11 = 1 ∧ gt m2 0 2 = gt m 0 2 ∧ FpK k k2 ∧ FqM m m2) ∨ (∃ k2 m2, Rd_readSetup k = some (0, k2) ∧ M_reads m = some m2 ∧ Bd k2 m2 ∧ ZR k2 ∧ FpK k k2 ∧ FqM m m2) := by
  unfold Rd_readSetup M_reads
  obtain ⟨k1, a1, a2, a3, a4, a5⟩ := clear_e 10 k
  obtain ⟨m1, b1', b2', b3', b4', b5'⟩ := M_defaults_e m
  rw [a1, b1_some, b1', b1_some, lt_e, lt_e, lt_e]
  obtain ⟨k0, hk0⟩ : ∃ k0, k0 = st k1 155 4 0 := ⟨_, rfl⟩
  obtain ⟨m0, hm0⟩ : ∃ m0, m0 = st (st m1 0 11 1) 0 6 0 := ⟨_, rfl⟩
  rw [← hk0, ← hm0]
  have fk0 : FpK k k0 := fun j x y => by rw [hk0, st_row_ne y, a5 j (by omega) (by omega) (by omega)]
  have s0 : ∀ i, i ≠ 5 → i ≠ 6 → i ≠ 11 → m0.1 0 i = m.1 0 i := fun i x y z => by rw [hm0, st_row_same, upd_e, if_neg y, st_row_same, upd_e, if_neg z, b4' i x]
  have r0 : ∀ j, j ≠ 0 → m0.1 j = m1.1 j := fun j x => by rw [hm0, st_row_ne x, st_row_ne x]
  have fm0 : FqM m m0 := ⟨fun j x y => by rw [r0 j x, b3' j y x], fun i hi => s0 i (by omega) (by omega) (by omega)⟩
  have z0 : ZR k0 := fun f hf => by rw [gt_e, hk0, st_row_ne (by omega), a5 18 (by omega) (by omega) (by omega)]; exact hz f hf
  have hT0 : TB T B k0 m0 := by
    obtain ⟨t1, t2, t3, t4⟩ := hT
    refine ⟨t1, by rw [gt_e, s0 1 (by omega) (by omega) (by omega)]; exact t2, by rw [gt_e, fk0 153 (by omega) (by omega)]; exact t3, fun i hi => by rw [gt_e, fk0 154 (by omega) (by omega), gt_e, fm0.1 1 (by omega) (by omega)]; exact t4 i hi⟩
  have h50 : gt m0 0 5 = 0 := by rw [hm0, gt_st_i (by omega), gt_st_i (by omega)]; exact b5'
  have hf0 : gt m0 0 11 = 1 := by rw [hm0, gt_st_i (by omega), gt_st_same]
  have h60 : gt m0 0 6 = nI 0 := by rw [hm0, gt_st_same]; rfl
  have h40 : gt k0 155 4 = nI 0 := by rw [hk0, gt_st_same]; rfl
  have zm : ∀ i, i < 172 → gt m0 3 i = 0 := fun i hi => by rw [gt_e, r0 3 (by omega)]; exact b2' i hi
  have zk : ∀ i, i < 4 → gt k0 10 i = 0 := fun i hi => by rw [hk0, gt_st_k (by omega)]; exact a2 i hi
  have zl : ∀ i, i < 256 → gt k0 15 i = -1 := fun i hi => by rw [hk0, gt_st_k (by omega)]; exact a3 i hi
  have zc : ∀ i, i < 16 → gt k0 16 i = 0 := fun i hi => by rw [hk0, gt_st_k (by omega)]; exact a4 i hi
  obtain ⟨k3, m3, kd, s, e, v, c1, c2, c3, c4, c5⟩ := next_both hT0 h60 h40 (by omega)
  have h3 : PS T B k3 m3 := ⟨hT0.f c4 c5, by rw [gt_e, c5.2 11 (by omega)]; exact hf0, kd, s, e, v, c3⟩
  rw [c1, b1_some, c2, b1_some]
  have key : RsO k0 m0 (b2 (Rd_readNodes k3) fun x4 q5 => if x4 = (0 : Int32) then some ((0 : Int32), q5) else b2 (Rd_readLinks q5) fun x7 q8 => if x7 = (0 : Int32) then some ((0 : Int32), q8) else b2 (Rd_readCpus q8) fun x10 q11 => if x10 = (0 : Int32) then some ((0 : Int32), q11) else b2 (Rd_readNative q11) fun x13 q14 => if x13 = (0 : Int32) then some ((0 : Int32), q14) else b2 (Rd_readFormats q14) fun x16 q17 => if x16 = (0 : Int32) then some ((0 : Int32), q17) else if (gt q17 155 2) = (0 : Int32) then some ((1 : Int32), q17) else some ((0 : Int32), q17)) (b2 (M_numberBehind m3 (15175859 : Int64) (2 : Int32) (16 : Int32)) fun x5 q6 => b1 (wr 172 q6 3 (0 : Int32) x5) fun q7 => if (gt q7 0 8) = (3 : Int32) then M_reads_J48 (1 : Int32) q7 else M_reads_J48 (0 : Int32) q7) := by
    refine RsO.tr ?_ c4.p c5.p
    have z3 : ZR k3 := z0.f c4
    unfold Rd_readNodes
    have w0 : ∀ (q : St) (v : Int32), wr 172 q 3 0 v = some (st q 3 0 v) := fun q v => wr_n (n := 0) (by omega) (by omega)
    have bad : ∀ q, gt q 0 11 = 0 → ∀ z, M_reads_J48 z q = some (st q 3 2 1) := fun q hq z => by
      obtain ⟨f, hf⟩ := FU_s
      rw [J48_e, takes_b hq, b1_some, hf, links_b kC hq, kC_b hq]
    have badr : ∀ q v, gt q 0 11 = 0 → (if gt (st q 3 0 v) 0 8 = 3 then M_reads_J48 1 (st q 3 0 v) else M_reads_J48 0 (st q 3 0 v)) = some (st (st q 3 0 v) 3 2 1) := fun q v hq => by
      have hq2 : gt (st q 3 0 v) 0 11 = 0 := by rw [gt_st_k (by omega)]; exact hq
      rw [bad _ hq2, bad _ hq2]; split <;> rfl
    rcases behind_both h3 (w := 0) (lo := 2) (hi := 16) (by omega) (by omega) (by omega) with ⟨n, k4, k5, m5, n1, n2, e1, e2, e3, e4, e5, e6⟩ | ⟨x, m5, e1, e3, e4, e5, e6⟩ | ⟨x, k4, m5, e1, e2, e3, e4, e5, e6, e7⟩
    · have e2 : Rd_takeNumber k4 2 16 = some (nI n, k5) := e2
      have e3 : M_numberBehind m3 15175859 2 16 = some (nI n, m5) := e3
      rw [e1, b2_some, if_neg (show ¬ (1 : Int32) = 0 by decide), e2, b2_some, lt_e, gt_st_same, if_neg (nm1 (by omega)), e3, b2_some, w0, b1_some]
      have hP : PS T B (st k5 10 0 (nI n)) (st m5 3 0 (nI n)) := e4.row (fun j hj => st_row_ne (by omega)) (fun j hj => st_row_ne (by omega)) rfl
      have F1 := c4.tr e5
      have F2 := c5.tr e6
      have gK : ∀ j i, j ≠ 155 → gt k5 j i = gt k0 j i := fun j i x => by rw [gt_e, F1 j x]; rfl
      have gM : ∀ i, gt m5 3 i = gt m0 3 i := fun i => by rw [gt_e, F2.1 3 (by omega)]; rfl
      have hD : D1 (aN n) (st k5 10 0 (nI n)) (st m5 3 0 (nI n)) := by
        have e01 : aN n 0 1 = 0 := aN_z (by omega)
        have nl : ∀ a b l, ¬ Lk (aN n) a b l := fun a b l z => by have := z.1; rw [e01] at this; omega
        refine ⟨⟨by rw [aN_0, e01]; omega, fun l hl => by rw [e01] at hl; omega, fun a b l l2 z => absurd z (nl a b l), fun j hj => by rw [aN_z (by omega)]; omega⟩, ⟨⟨by rw [gt_st_same, aN_0], ?_, ?_⟩, fun l hl => by rw [e01] at hl; omega, fun j hj => ?_, fun f hf => ?_⟩, ⟨by rw [gt_st_same, aN_0], ?_⟩, fun l hl => by rw [e01] at hl; omega, fun a b ha hb => ⟨fun l z => absurd z (nl a b l), fun _ => ?_⟩, fun j hj => ?_, fun f hf => ?_⟩
        · rw [gt_st_i (by omega), gM, zm _ (by omega), e01]; rfl
        · rw [gt_st_i (by omega), gM, zm _ (by omega)]
        · rw [gt_st_i (by omega), gM, zm _ (by omega), aN_z (by omega)]; rfl
        · rw [gt_st_i (by omega), gM, zm _ (by omega)]
        · rw [gt_st_i (by omega), gK _ _ (by omega), zk _ (by omega), e01]; rfl
        · rw [gt_st_k (by omega), gK _ _ (by omega), zl _ (by omega)]
        · rw [gt_st_k (by omega), gK _ _ (by omega), zc _ (by omega), aN_z (by omega)]; rfl
        · rw [gt_st_k (by omega), gK _ _ (by omega)]; exact z0 f hf
      have fk : FpK k3 (st k5 10 0 (nI n)) := e5.p.tr (fun j x y => st_row_ne (by omega))
      have fm : FpM m3 (st m5 3 0 (nI n)) := e6.p.tr (FpM.r3 (fun j y => st_row_ne y))
      refine RsO.tr ?_ fk fm
      rcases semi_both hP with ⟨s1, k6, m6, s2, s3, s4, s5, s6⟩ | ⟨s1, s2, s3⟩
      · rw [s2, b2_some, if_neg (show ¬ (1 : Int32) = 0 by decide), b2_some, if_neg (show ¬ (1 : Int32) = 0 by decide), if_pos s1, J48_e, s3, b1_some]
        refine RsO.tr (rest_both s4 (hD.f s5 s6) (aN_z (by omega)) ?_) s5.p s6.p
        rw [gt_e, s6.2 5 (by omega), st_row_ne (by omega), F2.2 5 (by omega)]; exact h50
      · obtain ⟨f, hf⟩ := FU_s
        rw [s2, b2_some, if_pos rfl, b2_some, if_pos rfl, if_neg s1, J48_e, s3, b1_some, hf, links_b kC bdM_f, kC_b bdM_f]
        exact Or.inr ⟨_, _, rfl, rfl, (hP.bad hD.z).s⟩
    · have e3 : M_numberBehind m3 15175859 2 16 = some (x, m5) := e3
      rw [e1, b2_some, if_pos rfl, b2_some, if_pos rfl, e3, b2_some, w0, b1_some, badr _ _ e4.1]
      exact Or.inr ⟨_, _, rfl, rfl, BadO.s ⟨⟨by rw [gt_st_k (by omega)]; exact e4.1, by rw [gt_st_k (by omega)]; exact e4.2⟩, z3, FpK.rf, e5.tr (FpM.r3 (fun j y => st_row_ne y))⟩⟩
    · have e2 : Rd_takeNumber k4 2 16 = some (-1, k4) := e2
      have e3 : M_numberBehind m3 15175859 2 16 = some (x, m5) := e3
      rw [e1, b2_some, if_neg (show ¬ (1 : Int32) = 0 by decide), e2, b2_some, lt_e, gt_st_same, if_pos rfl, b2_some, if_pos rfl, e3, b2_some, w0, b1_some, badr _ _ e4.1]
      exact Or.inr ⟨_, _, rfl, rfl, BadO.s ⟨⟨by rw [gt_st_k (by omega)]; exact e4.1, by rw [gt_st_k (by omega), gt_st_k (by omega)]; exact e4.2⟩, fun f hf => by rw [gt_st_k (by omega)]; exact z3.f e5 f hf, e5.p.tr (fun j x y => st_row_ne (by omega)), e6.tr (FpM.r3 (fun j y => st_row_ne y))⟩⟩
  rcases key with ⟨A, F, L, k9, m9, h1, h2, h4, h5, h6, h7⟩ | ⟨k9, m9, h1, h2, h4⟩
  · refine Or.inl ⟨A, F, L, k9, m9, h1, h2, h4, h5, ?_, fk0.tr h6, fun j x y => (h7.1 j x y).trans (fm0.1 j x y), fun i hi => (h7.2.1 i hi).trans (fm0.2 i hi)⟩
    rw [gt_e, (h7.2.2 h5).2, s0 2 (by omega) (by omega) (by omega)]; rfl
  · exact Or.inr ⟨k9, m9, h1, h2, h4.1, h4.2.1, fk0.tr h4.2.2.1, fun j x y => (h4.2.2.2.1 j x y).trans (fm0.1 j x y), fun i hi => (h4.2.2.2.2.1 i hi).trans (fm0.2 i hi)⟩
