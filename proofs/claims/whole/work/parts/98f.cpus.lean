/-! ===== PHASE B: all links, all cpus ===== -/
def LpO (T : Nat) (B : Nat → Nat) (k m : St) (rk : Option (Int32 × St)) (rm : Option St) (kk : St → Option St) : Prop := (∃ A2 k2 m2, rk = some (1, k2) ∧ rm = kk m2 ∧ PS T B k2 m2 ∧ D1 A2 k2 m2 ∧ FpK k k2 ∧ FpM m m2 ∧ m2.1 0 5 = m.1 0 5) ∨ (∃ k2 m2, rk = some (0, k2) ∧ rm = kk m2 ∧ BadO k m k2 m2)
theorem readLink_full {T : Nat} {B : Nat → Nat} {A : Ab} {k m : St} (h : PS T B k m) (hd : D1 A k m) (hL : A 0 1 = 32) (h8 : gt m 0 8 = nI 1) : M_readLink m = some (bdM m) := by
  obtain ⟨⟨⟨w1, w2, w3⟩, _⟩, ⟨⟨a1, a2, a3⟩, _⟩, _⟩ := hd
  unfold M_readLink
  rw [rd_at 1 li1 (by omega) (by omega), b1_some, a2, hL, if_pos (show (32 : Int32) ≤ nI 32 by decide)]
  unfold M_readLink_J19 M_readLink_J86
  obtain ⟨x, hx⟩ := number_b (m := bdM m) bdM_f 0 (gt (bdM m) 3 0 - 1)
  rw [takes_0 h.2.1, b1_some, rdz (by omega) (by omega), b1_some, hx, b2_some, lt_e, bdM_s (i := 8) (by omega) (by omega), h8, if_neg (show ¬ nI 1 = (2 : Int32) by decide), J87_b bdM_f]
theorem LpO.tr {T : Nat} {B : Nat → Nat} {k m k1 m1 : St} {rk : Option (Int32 × St)} {rm : Option St} {kk : St → Option St} (h : LpO T B k1 m1 rk rm kk) (f1 : FpK k k1) (f2 : FpM m m1) (f3 : m1.1 0 5 = m.1 0 5) : LpO T B k m rk rm kk := by
  rcases h with ⟨A2, k2, m2, h1, h2, h3, h4, h6, h7, h8⟩ | ⟨k2, m2, h1, h2, h3⟩
  · exact Or.inl ⟨A2, k2, m2, h1, h2, h3, h4, f1.tr h6, f2.tr h7, h8.trans f3⟩
  · exact Or.inr ⟨k2, m2, h1, h2, h3.tr f1 f2⟩
theorem links_b (kk : St → Option St) {fu : Nat} {m : St} (h : gt m 0 11 = 0) : M_reads_L51 kk (fu + 1) m = kk m := by
  rw [M_reads_L51]; unfold M_reads_B51; rw [isWord_b h, b1_some, if_pos rfl]
theorem cpus_b (kk : St → Option St) {fu : Nat} {m : St} (h : gt m 0 11 = 0) : M_reads_L68 kk (fu + 1) m = kk m := by
  rw [M_reads_L68]; unfold M_reads_B68; rw [isWord_b h, b1_some, if_pos rfl]
theorem forms_b (kk : St → Option St) {fu : Nat} {m : St} (h : gt m 0 11 = 0) : M_reads_L89 kk (fu + 1) m = kk m := by
  rw [M_reads_L89]; unfold M_reads_B89; rw [isWord_b h, b1_some, if_pos rfl]
theorem links_both {T : Nat} {B : Nat → Nat} (kk : St → Option St) : ∀ (fu : Nat) (A : Ab) (k m : St), PS T B k m → D1 A k m → 34 ≤ A 0 1 + fu → LpO T B k m (Rd_readLinks_L2 fu (nI (A 0 1)) k) (M_reads_L51 kk fu m) kk := by
  intro fu
  induction fu with
  | zero => intro A k m h hd hf; have := hd.1.1.2.2; omega
  | succ fu ih =>
    intro A k m h hd hf
    have w3 := hd.1.1.2.2
    rw [Rd_readLinks_L2, M_reads_L51]; unfold Rd_readLinks_B2 M_reads_B51
    rw [if_neg (fun z => by have := (nI_ltI (a := 32) (by omega) (by omega)).mp z; omega)]
    rcases isWord_both h (w := 1) (by omega) with ⟨a, b, c⟩ | ⟨a, b⟩
    · have b : M_isWord m 402891 = some 1 := b
      rw [a, b, b1_some, b1_some, if_neg (show ¬ (1 : Int32) = 0 by decide), if_neg (show ¬ (1 : Int32) = 0 by decide), hd.2.2.1.2]
      by_cases d : A 0 1 = 32
      · rw [readLink_full h hd d c, b1_some, d, if_pos (show nI 32 = (32 : Int32) from rfl)]
        obtain ⟨f2, rfl⟩ : ∃ f2, fu = f2 + 1 := ⟨fu - 1, by omega⟩
        rw [links_b kk bdM_f]
        exact Or.inr ⟨_, _, rfl, rfl, h.bad hd.z⟩
      · rw [if_neg (show ¬ nI (A 0 1) = (32 : Int32) from fun z => d (nI_inj (b := 32) (by omega) (by omega) z))]
        obtain ⟨k1, e1, e2⟩ := readLink_both h hd (by omega)
        rw [e1, b1_some]
        rcases e2 with ⟨A2, k2, m2, h1, h2, h3, h4, h5, h6, h7, h8⟩ | ⟨k2, m2, h1, h2, h3⟩
        · rw [h1, h2, b1_some, b2_some, if_neg (show ¬ (1 : Int32) = 0 by decide), nI_1, ← h5]
          exact LpO.tr (ih A2 k2 m2 h3 h4 (by omega)) h6 h7 h8
        · obtain ⟨f2, rfl⟩ : ∃ f2, fu = f2 + 1 := ⟨fu - 1, by omega⟩
          rw [h1, h2, b1_some, b2_some, if_pos rfl, links_b kk h3.1.1]
          exact Or.inr ⟨_, _, rfl, rfl, h3⟩
    · have b : M_isWord m 402891 = some 0 := b
      rw [a, b, b1_some, b1_some, if_pos rfl, if_pos rfl]
      exact Or.inl ⟨A, k, m, rfl, rfl, h, hd, FpK.rf, FpM.rf, rfl⟩
def bc (v : Int32) : Nat → Nat
  | 0 => 0
  | n + 1 => bc v n + (if bt v n = true then 1 else 0)
theorem bc_le (v : Int32) : ∀ n, bc v n ≤ n := by
  intro n
  induction n with
  | zero => exact Nat.le_refl _
  | succ n ih => rw [bc]; split <;> omega
theorem bc_set (v : Int32) {a : Nat} (h : ¬ bt v a = true) (ha : a < 32) : ∀ n, n ≤ 32 → bc (v ||| ((1 : Int32) <<< (nI a &&& 31))) n = bc v n + (if a < n then 1 else 0) := by
  intro n
  induction n with
  | zero => intro _; rw [if_neg (by omega)]; rfl
  | succ n ih =>
    intro hn
    rw [bc, bc, ih (by omega)]
    have hs := b_set v (i := n) ha (by omega)
    by_cases c : n = a
    · rw [c] at hs ⊢
      rw [if_pos (hs.mpr (Or.inr rfl)), if_neg h, if_neg (by omega), if_pos (by omega)]
    · by_cases d : bt v n = true
      · rw [if_pos (hs.mpr (Or.inl d)), if_pos d]
        by_cases e : a < n
        · rw [if_pos e, if_pos (by omega)]
        · rw [if_neg e, if_neg (by omega)]
      · rw [if_neg (fun z => (hs.mp z).elim d c), if_neg d]
        by_cases e : a < n
        · rw [if_pos e, if_pos (by omega)]
        · rw [if_neg e, if_neg (by omega)]
theorem bc_0 : ∀ n, bc 0 n = 0 := by
  intro n
  induction n with
  | zero => rfl
  | succ n ih => rw [bc, ih, if_neg (by rw [b_0]; decide)]
theorem FpM.s5 {m : St} {v : Int32} : FpM m (st m 0 5 v) := ⟨fun j x _ => st_row_ne x, fun i hi => by rw [st_row_same, upd_e, if_neg (by omega)], fun z => ⟨by rw [st_row_same, upd_e, if_neg (by omega)] at z; exact z, by rw [st_row_same, upd_e, if_neg (by omega)]⟩⟩
theorem PS.s5 {T : Nat} {B : Nat → Nat} {k m : St} (h : PS T B k m) (v : Int32) : PS T B k (st m 0 5 v) := by
  obtain ⟨⟨t1, t2, t3, t4⟩, hf, kd, s, e, w, p1, p2, p3, ⟨p4, p5, p6⟩, ⟨p7, p8, p9⟩, p10, p11, p12⟩ := h
  refine ⟨⟨t1, by rw [gt_st_i (by omega)]; exact t2, t3, fun i hi => by rw [gt_st_k (by omega)]; exact t4 i hi⟩, by rw [gt_st_i (by omega)]; exact hf, kd, s, e, w, p1, p2, p3, ⟨by rw [gt_st_i (by omega)]; exact p4, by rw [gt_st_i (by omega)]; exact p5, by rw [gt_st_i (by omega)]; exact p6⟩, ⟨p7, p8, p9⟩, fun z => by rw [gt_st_i (by omega)]; exact p10 z, p11, p12⟩
theorem D1.cpu {A : Ab} {k m : St} (h : D1 A k m) {n c : Nat} (hn : n < 16) (hc : c ≤ 999) : D1 (up2 A 4 n c) (st k 16 n (nI c)) (st m 3 (132 + n) (nI c)) := by
  obtain ⟨⟨⟨w1, w2, w3⟩, w4, w5, w6⟩, ⟨⟨a1, a2, a3⟩, a4, a5, a6⟩, ⟨b1', b2'⟩, b3', b4', b5', b6'⟩ := h
  have e : ∀ x j, x ≠ 4 → up2 A 4 n c x j = A x j := fun x j hx => up2_ne (by omega)
  have eL : ∀ a b l, Lk (up2 A 4 n c) a b l ↔ Lk A a b l := fun a b l => by
    unfold Lk; rw [e 0 _ (by omega), e 1 _ (by omega), e 2 _ (by omega)]
  have gM : ∀ i, i ≠ 132 + n → gt (st m 3 (132 + n) (nI c)) 3 i = gt m 3 i := fun i hi => gt_st_i hi
  have gK : ∀ j i, j ≠ 16 → gt (st k 16 n (nI c)) j i = gt k j i := fun j i hj => gt_st_k hj
  refine ⟨⟨by rw [e 0 _ (by omega), e 0 _ (by omega)]; exact ⟨w1, w2, w3⟩, fun l hl => ?_, fun a b l l2 h1 h2 => w5 a b l l2 ((eL a b l).mp h1) ((eL a b l2).mp h2), fun j hj => ?_⟩, ⟨⟨?_, ?_, ?_⟩, fun l hl => ?_, fun j hj => ?_, fun f hf => ?_⟩, ⟨?_, ?_⟩, fun l hl => ?_, fun a b ha hb => ?_, fun j hj => ?_, fun f hf => ?_⟩
  · rw [e 0 _ (by omega)] at hl
    rw [e 0 _ (by omega), e 1 _ (by omega), e 2 _ (by omega), e 3 _ (by omega), e 7 _ (by omega)]; exact w4 l hl
  · by_cases q : j = n
    · rw [q, up2_same]; exact hc
    · rw [up2_ne (by omega)]; exact w6 j hj
  · rw [gM _ (by omega), e 0 _ (by omega)]; exact a1
  · rw [gM _ (by omega), e 0 _ (by omega)]; exact a2
  · rw [gM _ (by omega)]; exact a3
  · rw [e 0 _ (by omega)] at hl
    rw [gM _ (by omega), gM _ (by omega), gM _ (by omega), gM _ (by omega), e 1 _ (by omega), e 2 _ (by omega), e 3 _ (by omega), e 7 _ (by omega)]; exact a4 l hl
  · by_cases q : j = n
    · rw [q, up2_same, gt_st_same]
    · rw [up2_ne (by omega), gM _ (by omega)]; exact a5 j hj
  · rw [gM _ (by omega)]; exact a6 f hf
  · rw [gK _ _ (by omega), e 0 _ (by omega)]; exact b1'
  · rw [gK _ _ (by omega), e 0 _ (by omega)]; exact b2'
  · rw [e 0 _ (by omega)] at hl
    rw [gK _ _ (by omega), gK _ _ (by omega), gK _ _ (by omega), gK _ _ (by omega), e 1 _ (by omega), e 2 _ (by omega), e 3 _ (by omega), e 7 _ (by omega)]; exact b3' l hl
  · rw [gK _ _ (by omega)]
    exact ⟨fun l hl => (b4' a b ha hb).1 l ((eL a b l).mp hl), fun z => (b4' a b ha hb).2 (fun l hl => z l ((eL a b l).mpr hl))⟩
  · by_cases q : j = n
    · rw [q, up2_same, gt_st_same]
    · rw [up2_ne (by omega), gt_st_i q]; exact b5' j hj
  · rw [gK _ _ (by omega)]; exact b6' f hf
theorem c79_b {m : St} (h : gt m 0 11 = 0) (v1 v2 z : Int32) : M_readCpu_J79 v1 v2 z m = some m := by
  unfold M_readCpu_J79; rw [takes_b h, b1_some, if_pos h]
theorem c53r_b {m : St} (h : gt m 0 11 = 0) (v1 : Int32) : (b2 (M_number m 0 999) fun x5 q6 => if gt q6 0 8 = 3 then M_readCpu_J79 v1 x5 1 q6 else M_readCpu_J79 v1 x5 0 q6) = some m := by
  obtain ⟨x, hx⟩ := number_b h 0 999
  rw [hx, b2_some, c79_b h, c79_b h]
  split <;> rfl
theorem c52_0 {m : St} (h : gt m 0 11 = 1) (v1 : Int32) : M_readCpu_J52 v1 m = some (bdM m) := by
  unfold M_readCpu_J52 M_readCpu_J53; rw [takes_0 h, b1_some]; exact c53r_b bdM_f v1
theorem cpus_both {T : Nat} {B : Nat → Nat} (kk : St → Option St) : ∀ (fu : Nat) (A : Ab) (k m : St) (i : Nat), PS T B k m → D1 A k m → bc (gt m 0 5) 16 = i → 18 ≤ i + fu → (∃ A2 k2 m2, Rd_readCpus_L4 fu (gt m 0 5) (nI i) k = some (1, k2) ∧ M_reads_L68 kk fu m = kk m2 ∧ PS T B k2 m2 ∧ D1 A2 k2 m2 ∧ FpK k k2 ∧ FpM m m2) ∨ (∃ k2 m2, Rd_readCpus_L4 fu (gt m 0 5) (nI i) k = some (0, k2) ∧ M_reads_L68 kk fu m = kk m2 ∧ BadO k m k2 m2) := by
  intro fu
  induction fu with
  | zero => intro A k m i h hd hi hf; have := bc_le (gt m 0 5) 16; omega
  | succ fu ih =>
    intro A k m i h hd hi hf
    have hi16 := bc_le (gt m 0 5) 16
    obtain ⟨w1, w2, w3⟩ := hd.1.1
    rw [Rd_readCpus_L4, M_reads_L68]; unfold Rd_readCpus_B4 M_reads_B68
    rw [if_neg (fun z => by have := (nI_ltI (a := 16) (by omega) (by omega)).mp z; omega)]
    rcases isWord_both h (w := 4) (by omega) with ⟨a, b, _⟩ | ⟨a, b⟩
    · have b : M_isWord m 3605 = some 1 := b
      obtain ⟨k1, m1, c1, c2, c3, c4, c5⟩ := h.next
      have hd1 := hd.f c4 c5
      have hm1 : nI (A 0 0) - 1 = nI (A 0 0 - 1) := sub_le (b := 1) (by omega)
      have h5 : gt m1 0 5 = gt m 0 5 := by rw [gt_e, c5.2 5 (by omega)]; rfl
      obtain ⟨f2, hf2⟩ : ∃ f2, fu = f2 + 1 := ⟨fu - 1, by omega⟩
      rw [a, b, b1_some, b1_some, if_neg (show ¬ (1 : Int32) = 0 by decide), if_neg (show ¬ (1 : Int32) = 0 by decide), c2, b1_some]
      unfold M_readCpu
      rw [takes_1 h.2.1 c1, b1_some, lt_e, rdz (by omega) (by omega), b1_some, hd1.2.1.1.1, hm1, h5]
      have bad : M_reads_L68 kk fu (bdM m1) = kk (bdM m1) := by rw [hf2]; exact cpus_b kk bdM_f
      have bo : BadO k m k1 (bdM m1) := (c3.bad hd1.z).tr c4.p c5.p
      rcases num_c c3 0 (A 0 0 - 1) with ⟨n, n1, n2, n3, n4, n5, n6, n7⟩ | (⟨q1, q2, q3⟩ | ⟨n, q1, q2, q3, q4, q5, q6⟩)
      · rw [n4, n5, n7, if_pos rfl, M_in0 m1 (by omega) (by omega), if_pos n2, b1_some, if_neg (show ¬ (1 : Int32) = 0 by decide), if_neg (show ¬ nI n < (0 : Int32) from fun z => by have := (nI_ltI (b := 0) (by omega) (by omega)).mp z; omega), hd1.2.2.1.1, if_neg (show ¬ nI (A 0 0) ≤ nI n from fun z => by have := (nI_leI (by omega) (by omega)).mp z; omega), bit1 (gt m 0 5) (show n < 32 by omega)]
        by_cases ht : bt (gt m 0 5) n = true
        · rw [if_pos ht, if_pos rfl, if_neg (show ¬ (1 : Int32) = 0 by decide), c52_0 c3.2.1, b1_some, bad]
          exact Or.inr ⟨_, _, rfl, rfl, bo⟩
        · rw [if_neg ht, if_neg (show ¬ (0 : Int32) = 1 by decide), if_pos rfl]
          unfold Rd_readCpus_J58 M_readCpu_J53
          obtain ⟨k2, m2, f1, f2', f3, f4, f5⟩ := c3.next
          have hd2 := hd1.f f4 f5
          have g1 : Rd_takeNumber k1 0 (nI (A 0 0 - 1)) = some (nI n, k2) := takeYes (lo := 0) n6 n7 (by omega) (by omega) (by omega) ⟨n1, n2⟩ f2'
          rw [hd1.2.2.1.1, hm1, g1, b2_some, if_neg (nm1 (by omega)), lt_e, takes_1 c3.2.1 f1, b1_some]
          rcases number_both f3 (lo := 0) (hi := 999) (by omega) (by omega) with ⟨c, k3, m3, x1, x2, e1, e2, e3, e4, e5⟩ | ⟨e1, e2⟩
          · have e1 : Rd_takeNumber k2 0 999 = some (nI c, k3) := e1
            have e2 : M_number m2 0 999 = some (nI c, m3) := e2
            rw [e1, b2_some, if_neg (nm1 (by omega)), e2, b2_some]
            have hd3 := hd2.f e4 e5
            unfold M_readCpu_J79
            rcases semi_both e3 with ⟨s1, k4, m4, s2, s3, s4, s5, s6⟩ | ⟨s1, s2, s3⟩
            · have hd4 := hd3.f s5 s6
              have F : FnM m m4 := ((c5.tr f5).tr e5).tr s6
              have h54 : gt m4 0 5 = gt m 0 5 := by rw [gt_e, F.2 5 (by omega)]; rfl
              rw [s2, b2_some, if_neg (show ¬ (1 : Int32) = 0 by decide), if_pos s1, s3, b1_some, s4.2.1, if_neg (show ¬ (1 : Int32) = 0 by decide), wr_n (by omega) (by omega), b1_some, show (132 : Int32) = nI 132 from rfl, nI_add, wr_n (by omega) (by omega), b1_some, lt_e, b1_some, gt_st_k (by omega), h54, nI_1]
              have hP : PS T B (st k4 16 n (nI c)) (st (st m4 3 (132 + n) (nI c)) 0 5 (gt m 0 5 ||| ((1 : Int32) <<< (nI n &&& 31)))) := (s4.row (k2 := st k4 16 n (nI c)) (m2 := st m4 3 (132 + n) (nI c)) (fun j hj => st_row_ne (by omega)) (fun j hj => st_row_ne (by omega)) rfl).s5 _
              have hD := (hd4.cpu (n := n) (c := c) (by omega) x2).row (k2 := st k4 16 n (nI c)) (m2 := st (st m4 3 (132 + n) (nI c)) 0 5 (gt m 0 5 ||| ((1 : Int32) <<< (nI n &&& 31)))) (fun _ _ _ => rfl) (st_row_ne (by omega))
              have hb := bc_set (gt m 0 5) (a := n) ht (by omega) 16 (by omega)
              rw [if_pos (by omega), hi] at hb
              have r := ih _ _ _ (i + 1) hP hD (by rw [gt_st_same]; exact hb) (by omega)
              rw [gt_st_same] at r
              have fk : FpK k (st k4 16 n (nI c)) := (((c4.tr f4).tr e4).tr s5).p.tr (fun j x y => st_row_ne (by omega))
              have fm : FpM m (st (st m4 3 (132 + n) (nI c)) 0 5 (gt m 0 5 ||| ((1 : Int32) <<< (nI n &&& 31)))) := F.p.tr ((FpM.r3 (fun j y => st_row_ne y)).tr FpM.s5)
              rcases r with ⟨A2, k5, m5, r1, r2, r3, r4, r5, r6⟩ | ⟨k5, m5, r1, r2, r3⟩
              · exact Or.inl ⟨A2, k5, m5, r1, r2, r3, r4, fk.tr r5, fm.tr r6⟩
              · exact Or.inr ⟨k5, m5, r1, r2, r3.tr fk fm⟩
            · rw [s2, b2_some, if_pos rfl, if_neg s1, s3, b1_some, bdM_f, if_pos rfl, b1_some, hf2, cpus_b kk bdM_f]
              exact Or.inr ⟨_, _, rfl, rfl, (e3.bad hd3.z).tr ((c4.tr f4).tr e4).p ((c5.tr f5).tr e5).p⟩
          · have e1 : Rd_takeNumber k2 0 999 = some (-1, k2) := e1
            have e2 : M_number m2 0 999 = some (gt m2 0 9, bdM m2) := e2
            rw [e1, b2_some, if_pos rfl, e2, b2_some, c79_b bdM_f, c79_b bdM_f]
            have : (if gt (bdM m2) 0 8 = 3 then some (bdM m2) else some (bdM m2)) = some (bdM m2) := by split <;> rfl
            rw [this, b1_some, hf2, cpus_b kk bdM_f]
            exact Or.inr ⟨_, _, rfl, rfl, (f3.bad hd2.z).tr (c4.tr f4).p (c5.tr f5).p⟩
      · rw [if_neg q1, q3, if_pos (show (-1 : Int32) < 0 by decide), c52_0 c3.2.1, b1_some, bad]
        unfold Rd_readCpus_J58
        rw [takeNo1 q2, b2_some, if_pos rfl]
        exact Or.inr ⟨_, _, rfl, rfl, bo⟩
      · rw [q3, q4, q6, if_pos rfl, M_in0 m1 (by omega) (by omega), if_neg (show ¬ n ≤ A 0 0 - 1 by omega), b1_some, if_pos rfl, if_neg (show ¬ nI n < (0 : Int32) from fun z => by have := (nI_ltI (b := 0) (by omega) (by omega)).mp z; omega), hd1.2.2.1.1, if_pos (show nI (A 0 0) ≤ nI n from (nI_leI (by omega) (by omega)).mpr (by omega)), c52_0 c3.2.1, b1_some, bad]
        unfold Rd_readCpus_J58
        have g1 : Rd_takeNumber k1 0 (nI (A 0 0 - 1)) = some (-1, k1) := takeNo2 (lo := 0) q6 q1 (by omega) (by omega) q2
        rw [hd1.2.2.1.1, hm1, g1, b2_some, if_pos rfl]
        exact Or.inr ⟨_, _, rfl, rfl, bo⟩
    · have b : M_isWord m 3605 = some 0 := b
      rw [a, b, b1_some, b1_some, if_pos rfl, if_pos rfl]
      exact Or.inl ⟨A, k, m, rfl, rfl, h, hd, FpK.rf, FpM.rf⟩
