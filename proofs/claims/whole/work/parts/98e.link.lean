/-! ===== PHASE B: one link, all links ===== -/
theorem rdz {len k : Nat} {q : St} (h : 0 < len) (hl : len < 2 ^ 31) : rd len q k 0 = some (gt q k 0) := rd_n (n := 0) h hl
theorem nm1 {n : Nat} (h : n < 2 ^ 31) : ¬ nI n = -1 := fun z => by
  have h1 := congrArg Int32.toInt z
  rw [nI_toInt h] at h1
  have h2 : (-1 : Int32).toInt = -1 := by decide
  omega
theorem PS.row {T : Nat} {B : Nat → Nat} {k m k2 m2 : St} (h : PS T B k m) (h1 : ∀ j, 153 ≤ j → k2.1 j = k.1 j) (h2 : ∀ j, j < 2 → m2.1 j = m.1 j) (h3 : m2.2 = m.2) : PS T B k2 m2 := by
  obtain ⟨⟨t1, t2, t3, t4⟩, hf, kd, s, e, v, p1, p2, p3, ⟨p4, p5, p6⟩, ⟨p7, p8, p9⟩, p10, p11, p12⟩ := h
  have g : ∀ j i, 153 ≤ j → gt k2 j i = gt k j i := fun j i x => by rw [gt_e, h1 j x]; rfl
  have gm : ∀ j i, j < 2 → gt m2 j i = gt m j i := fun j i x => by rw [gt_e, h2 j x]; rfl
  refine ⟨⟨t1, by rw [gm 0 _ (by omega)]; exact t2, by rw [g 153 _ (by omega)]; exact t3, fun i hi => by rw [g 154 _ (by omega), gm 1 _ (by omega)]; exact t4 i hi⟩, by rw [gm 0 _ (by omega)]; exact hf, kd, s, e, v, p1, p2, p3, ⟨by rw [gm 0 _ (by omega)]; exact p4, by rw [gm 0 _ (by omega)]; exact p5, by rw [gm 0 _ (by omega)]; exact p6⟩, ⟨by rw [g 155 _ (by omega)]; exact p7, by rw [g 155 _ (by omega)]; exact p8, by rw [g 155 _ (by omega)]; exact p9⟩, fun z => ?_, fun z => by rw [g 155 _ (by omega)]; exact p11 z, fun z => by rw [h3]; exact p12 z⟩
  rw [gm 0 _ (by omega), g 155 _ (by omega)]; exact p10 z
theorem takeNo1 {k : St} (h : gt k 155 2 ≠ 2) (lo hi : Int32) : Rd_takeNumber k lo hi = some (-1, k) := by
  unfold Rd_takeNumber; rw [if_neg h]
theorem takeNo2 {k : St} {n lo hi : Nat} (h : gt k 155 3 = nI n) (hn : n ≤ 9999) (h1 : lo ≤ 9999) (h2 : hi ≤ 9999) (h3 : ¬ (lo ≤ n ∧ n ≤ hi)) : Rd_takeNumber k (nI lo) (nI hi) = some (-1, k) := by
  by_cases c : gt k 155 2 = 2
  · unfold Rd_takeNumber
    rw [h, if_pos c]
    by_cases d : n < lo
    · rw [if_pos ((nI_ltI (by omega) (by omega)).mpr d)]
    · rw [if_neg (fun z => d ((nI_ltI (by omega) (by omega)).mp z)), if_neg (fun z => by have := (nI_leI (by omega) (by omega)).mp z; omega)]
  · exact takeNo1 c _ _
theorem takeYes {k k2 : St} {n lo hi : Nat} (h0 : gt k 155 2 = 2) (h : gt k 155 3 = nI n) (hn : n ≤ 9999) (h1 : lo ≤ 9999) (h2 : hi ≤ 9999) (h3 : lo ≤ n ∧ n ≤ hi) (hx : Rd_nextToken k = some k2) : Rd_takeNumber k (nI lo) (nI hi) = some (nI n, k2) := by
  unfold Rd_takeNumber
  rw [h, if_pos h0, if_neg (fun z => by have := (nI_ltI (by omega) (by omega)).mp z; omega), if_pos ((nI_leI (by omega) (by omega)).mpr h3.2), lt_e, hx, b1_some]
/-- the end of a link -/
theorem J129_both {T : Nat} {B : Nat → Nat} {A : Ab} {k m : St} (h : PS T B k m) (hd : D1 A k m) {a b c d : Nat} (hL : A 0 1 < 32) (ha : a < A 0 0) (hb : b < A 0 0) (hab : a ≠ b) (hno : ∀ l, ¬ Lk A a b l) (hc : c ≤ 9999) (hd1 : 1 ≤ d) (hd2 : d ≤ 99) : (∃ k1 k2 m2, Rd_takeSemicolon k = some (1, k1) ∧ Su_putLink k1 (nI a) (nI b) (nI c) (nI d) = some k2 ∧ (if gt m 0 8 = 3 then M_readLink_J129 (nI (A 0 1)) (nI a) (nI b) (nI c) (nI d) 1 m else M_readLink_J129 (nI (A 0 1)) (nI a) (nI b) (nI c) (nI d) 0 m) = some m2 ∧ PS T B k2 m2 ∧ D1 (adl A a b c d) k2 m2 ∧ FpK k k2 ∧ FpM m m2 ∧ m2.1 0 5 = m.1 0 5) ∨ (Rd_takeSemicolon k = some (0, k) ∧ (if gt m 0 8 = 3 then M_readLink_J129 (nI (A 0 1)) (nI a) (nI b) (nI c) (nI d) 1 m else M_readLink_J129 (nI (A 0 1)) (nI a) (nI b) (nI c) (nI d) 0 m) = some (bdM m) ∧ BadO k m k (bdM m)) := by
  rcases semi_both h with ⟨s1, k1, m1, s2, s3, s4, s5, s6⟩ | ⟨s1, s2, s3⟩
  · rw [if_pos s1]; unfold M_readLink_J129
    rw [s3, b1_some, s4.2.1, if_neg (by decide)]
    obtain ⟨k2, m2, q1, q2, q3, q4, q5, q6⟩ := putLink_both (hd.f s5 s6) s4.2.1 hL ha hb hab hno hc hd1 hd2
    exact Or.inl ⟨k1, k2, m2, s2, q1, q2, s4.row (fun j x => q4 j (by omega)) (fun j x => q5 j (by omega)) q6, q3, s5.p.tr (fun j x y => q4 j (by omega)), s6.p.tr (FpM.r3 q5), by rw [q5 0 (by omega)]; exact s6.2 5 (by omega)⟩
  · rw [if_neg s1]; unfold M_readLink_J129
    rw [s3, b1_some, bdM_f, if_pos rfl]
    exact Or.inr ⟨s2, rfl, h.bad hd.z⟩
theorem J87s_b {m : St} (h : gt m 0 11 = 0) (v1 v2 v3 x10 : Int32) : (b2 (M_numberBehind m 4370489 1 99) fun x12 q13 => if gt q13 0 8 = 3 then M_readLink_J129 v1 v2 v3 x10 x12 1 q13 else M_readLink_J129 v1 v2 v3 x10 x12 0 q13) = some m := by
  obtain ⟨y, hy⟩ := behind_b h 4370489 1 99
  rw [hy, b2_some, J129_b h, J129_b h]
  split <;> rfl
theorem J87t_b {m : St} (h : gt m 0 11 = 0) (v1 v2 v3 x10 x12 : Int32) : (if gt m 0 8 = 3 then M_readLink_J129 v1 v2 v3 x10 x12 1 m else M_readLink_J129 v1 v2 v3 x10 x12 0 m) = some m := by
  rw [J129_b h, J129_b h]
  split <;> rfl
def LinkO (T : Nat) (B : Nat → Nat) (A : Ab) (k m : St) (rk : Option (Int32 × St)) (rm : Option St) : Prop := (∃ A2 k2 m2, rk = some (1, k2) ∧ rm = some m2 ∧ PS T B k2 m2 ∧ D1 A2 k2 m2 ∧ A2 0 1 = A 0 1 + 1 ∧ FpK k k2 ∧ FpM m m2 ∧ m2.1 0 5 = m.1 0 5) ∨ (∃ k2 m2, rk = some (0, k2) ∧ rm = some m2 ∧ BadO k m k2 m2)
theorem LinkO.tr {T : Nat} {B : Nat → Nat} {A : Ab} {k m k1 m1 : St} {rk : Option (Int32 × St)} {rm : Option St} (h : LinkO T B A k1 m1 rk rm) (f1 : FnK k k1) (f2 : FnM m m1) : LinkO T B A k m rk rm := by
  rcases h with ⟨A2, k2, m2, h1, h2, h3, h4, h5, h6, h7, h8⟩ | ⟨k2, m2, h1, h2, h3⟩
  · exact Or.inl ⟨A2, k2, m2, h1, h2, h3, h4, h5, f1.p.tr h6, f2.p.tr h7, h8.trans (f2.2 5 (by omega))⟩
  · exact Or.inr ⟨k2, m2, h1, h2, h3.tr f1.p f2.p⟩
/-- behind both ends -/
theorem J87_both {T : Nat} {B : Nat → Nat} {A : Ab} {k m : St} (h : PS T B k m) (hd : D1 A k m) {a b : Nat} (hL : A 0 1 < 32) (ha : a < A 0 0) (hb : b < A 0 0) (hab : a ≠ b) (hno : ∀ l, ¬ Lk A a b l) : LinkO T B A k m (b2 (Rd_takeWord 2 k) fun x10 q11 => if x10 = (0 : Int32) then some ((0 : Int32), q11) else b2 (Rd_takeNumber q11 (0 : Int32) (9999 : Int32)) fun x13 q14 => if x13 = (-1 : Int32) then some ((0 : Int32), q14) else b2 (Rd_takeWord 3 q14) fun x16 q17 => if x16 = (0 : Int32) then some ((0 : Int32), q17) else b2 (Rd_takeNumber q17 (1 : Int32) (99 : Int32)) fun x19 q20 => if x19 = (-1 : Int32) then some ((0 : Int32), q20) else b2 (Rd_takeSemicolon q20) fun x22 q23 => if x22 = (0 : Int32) then some ((0 : Int32), q23) else b1 (Su_putLink q23 (nI a) (nI b) x13 x19) fun q25 => some ((1 : Int32), q25)) (b2 (M_numberBehind m 104690984601 0 9999) fun x10 q11 => b2 (M_numberBehind q11 4370489 1 99) fun x12 q13 => if gt q13 0 8 = 3 then M_readLink_J129 (nI (A 0 1)) (nI a) (nI b) x10 x12 1 q13 else M_readLink_J129 (nI (A 0 1)) (nI a) (nI b) x10 x12 0 q13) := by
  rcases behind_both h (w := 2) (lo := 0) (hi := 9999) (by omega) (by omega) (by omega) with ⟨n, k1, k2, m2, n1, n2, e1, e2, e3, e4, e5, e6⟩ | ⟨x, m2, e1, e3, e4, e5, e6⟩ | ⟨x, k1, m2, e1, e2, e3, e4, e5, e6, e7⟩
  · have e2 : Rd_takeNumber k1 0 9999 = some (nI n, k2) := e2
    have e3 : M_numberBehind m 104690984601 0 9999 = some (nI n, m2) := e3
    rw [e1, b2_some, if_neg (by decide), e2, b2_some, if_neg (nm1 (by omega)), e3, b2_some]
    refine LinkO.tr ?_ e5 e6
    have hd2 := hd.f e5 e6
    rcases behind_both e4 (w := 3) (lo := 1) (hi := 99) (by omega) (by omega) (by omega) with ⟨d, k3, k4, m4, d1, d2, f1, f2, f3, f4, f5, f6⟩ | ⟨x, m4, f1, f3, f4, f5, f6⟩ | ⟨x, k3, m4, f1, f2, f3, f4, f5, f6, f7⟩
    · have f2 : Rd_takeNumber k3 1 99 = some (nI d, k4) := f2
      have f3 : M_numberBehind m2 4370489 1 99 = some (nI d, m4) := f3
      rw [f1, b2_some, if_neg (by decide), f2, b2_some, if_neg (nm1 (by omega)), f3, b2_some]
      refine LinkO.tr ?_ f5 f6
      rcases J129_both f4 (hd2.f f5 f6) hL ha hb hab hno n2 d1 d2 with ⟨k5, k6, m6, g1, g2, g3, g4, g5, g6, g7, g8⟩ | ⟨g1, g2, g3⟩
      · rw [g1, b2_some, if_neg (by decide), g2, b1_some, g3]
        exact Or.inl ⟨_, k6, m6, rfl, rfl, g4, g5, adl_at.2.2.2.2, g6, g7, g8⟩
      · rw [g1, b2_some, if_pos rfl, g2]
        exact Or.inr ⟨_, _, rfl, rfl, g3⟩
    · have f3 : M_numberBehind m2 4370489 1 99 = some (x, m4) := f3
      rw [f1, b2_some, if_pos rfl, f3, b2_some, J87t_b f4.1]
      exact Or.inr ⟨_, _, rfl, rfl, f4, hd2.z, FpK.rf, f5⟩
    · have f2 : Rd_takeNumber k3 1 99 = some (-1, k3) := f2
      have f3 : M_numberBehind m2 4370489 1 99 = some (x, m4) := f3
      rw [f1, b2_some, if_neg (by decide), f2, b2_some, if_pos rfl, f3, b2_some, J87t_b f4.1]
      exact Or.inr ⟨_, _, rfl, rfl, f4, hd2.z.f f5, f5.p, f6⟩
  · have e3 : M_numberBehind m 104690984601 0 9999 = some (x, m2) := e3
    rw [e1, b2_some, if_pos rfl, e3, b2_some, J87s_b e4.1]
    exact Or.inr ⟨_, _, rfl, rfl, e4, hd.z, FpK.rf, e5⟩
  · have e2 : Rd_takeNumber k1 0 9999 = some (-1, k1) := e2
    have e3 : M_numberBehind m 104690984601 0 9999 = some (x, m2) := e3
    rw [e1, b2_some, if_neg (by decide), e2, b2_some, if_pos rfl, e3, b2_some, J87s_b e4.1]
    exact Or.inr ⟨_, _, rfl, rfl, e4, hd.z.f e5, e5.p, e6⟩
theorem M_in0 (q : St) {v hi : Nat} (h1 : v < 2 ^ 31) (h3 : hi < 2 ^ 31) : M_in q (nI v).toInt64 (0 : Int64) (nI hi).toInt64 = some (if v ≤ hi then 1 else 0) := by
  have h := M_inN q (lo := 0) h1 (by omega) h3
  rw [show (nI 0).toInt64 = (0 : Int64) by decide] at h
  rw [h]
  by_cases c : v ≤ hi
  · rw [if_pos c, if_pos ⟨Nat.zero_le _, c⟩]
  · rw [if_neg c, if_neg (fun z => c z.2)]
theorem readLink_both {T : Nat} {B : Nat → Nat} {A : Ab} {k m : St} (h : PS T B k m) (hd : D1 A k m) (hL : A 0 1 < 32) : ∃ k1, Rd_nextToken k = some k1 ∧ LinkO T B A k m (Rd_readLink k1) (M_readLink m) := by
  obtain ⟨k1, m1, c1, c2, c3, c4, c5⟩ := h.next
  refine ⟨k1, c2, LinkO.tr ?_ c4 c5⟩
  have hd1 := hd.f c4 c5
  obtain ⟨⟨⟨w1, w2, w3⟩, _⟩, ⟨⟨a1, a2, a3⟩, _⟩, _⟩ := hd
  have hd1' := hd1
  obtain ⟨_, ⟨⟨a1', a2', _⟩, _⟩, ⟨b1', b2'⟩, _⟩ := hd1'
  have hm1 : nI (A 0 0) - 1 = nI (A 0 0 - 1) := sub_le (b := 1) (by omega)
  unfold M_readLink
  rw [rd_at 1 li1 (by omega) (by omega), b1_some, a2, if_neg (fun z => by have := (nI_leI (a := 32) (by omega) (by omega)).mp z; omega)]
  unfold M_readLink_J19 M_readLink_J86
  rw [takes_1 h.2.1 c1, b1_some, rdz (by omega) (by omega), b1_some, a1', hm1]
  unfold Rd_readLink
  rw [b1', hm1]
  rcases number_both c3 (lo := 0) (hi := A 0 0 - 1) (by omega) (by omega) with ⟨n, k2, m2, n1, n2, e1, e2, e3, e4, e5⟩ | ⟨e1, e2⟩
  · have e1 : Rd_takeNumber k1 0 (nI (A 0 0 - 1)) = some (nI n, k2) := e1
    have e2 : M_number m1 0 (nI (A 0 0 - 1)) = some (nI n, m2) := e2
    rw [e1, b2_some, if_neg (nm1 (by omega)), e2, b2_some, lt_e]
    refine LinkO.tr ?_ e4 e5
    have hd2 := hd1.f e4 e5
    have hd2' := hd2
    obtain ⟨_, ⟨⟨a1'', _⟩, _⟩, ⟨b1'', _⟩, _, b4, _⟩ := hd2'
    have bad : ∀ v, LinkO T B A k2 m2 (some (0, k2)) (M_readLink_J87 (nI (A 0 1)) (nI n) v 0 m2) := fun v => by
      rw [J87_0 e3.2.1]
      exact Or.inr ⟨_, _, rfl, rfl, e3.bad hd2.z⟩
    rw [rdz (by omega) (by omega), b1_some, a1'', hm1]
    rcases num_c e3 0 (A 0 0 - 1) with ⟨b, n1', n2', n3, n4, n5, n6, n7⟩ | (⟨q1, q2, q3⟩ | ⟨b, q1, q2, q3, q4, q5, q6⟩)
    · rw [n4, n5, n7, if_pos rfl, M_in0 m2 (by omega) (by omega), if_pos n2', b1_some, if_neg (show ¬ (1 : Int32) = 0 by decide)]
      by_cases c : n = b
      · rw [if_pos (by rw [c]), if_pos (by rw [c])]; exact bad _
      · rw [if_neg (fun z => c (nI_inj (by omega) (by omega) z).symm), if_neg (fun z => c (nI_inj (by omega) (by omega) z))]
        unfold Rd_isLinked
        rw [b1'', if_neg (fun z => by have := (nI_ltI (b := 0) (by omega) (by omega)).mp z; omega), if_neg (fun z => by have := (nI_leI (by omega) (by omega)).mp z; omega), li16, pk_mul, nI_add, rd_n (by omega) (by omega), b1_some]
        have hj := joined2 hd2 (a := n) (b := b) (by omega) (by omega) FU 0 (by omega) (by rw [FU_e]; omega)
        unfold M_isJoined
        rcases hj with ⟨⟨j, _, j1⟩, j2⟩ | ⟨j1, j2⟩
        · have j2 : M_isJoined_L2 m2 FU (nI n) (nI b) 0 = some 1 := j2
          rw [j2, b1_some, if_neg (show ¬ (1 : Int32) = 0 by decide), (b4 n b (by omega) (by omega)).1 j j1, if_neg (nm1 (by have := j1.1; omega)), b1_some, if_neg (show ¬ (1 : Int32) = 0 by decide)]
          exact bad _
        · have j2 : M_isJoined_L2 m2 FU (nI n) (nI b) 0 = some 0 := j2
          rw [j2, b1_some, if_pos rfl, (b4 n b (by omega) (by omega)).2 (fun l => j1 l (by omega)), if_pos rfl, b1_some, if_pos rfl]
          obtain ⟨k3, m3, f1, f2, f3, f4, f5⟩ := e3.next
          have g1 : Rd_takeNumber k2 0 (nI (A 0 0 - 1)) = some (nI b, k3) := takeYes (lo := 0) n6 n7 (by omega) (by omega) (by omega) ⟨n1', n2'⟩ f2
          unfold M_readLink_J87
          rw [hm1, g1, b2_some, if_neg (nm1 (by omega)), takes_1 e3.2.1 f1, b1_some]
          exact LinkO.tr (J87_both f3 (hd2.f f4 f5) hL (by omega) (by omega) c (fun l => j1 l (by omega))) f4 f5
    · rw [if_neg q1, q3, if_neg (fun z => nm1 (by omega) z.symm)]
      unfold Rd_isLinked
      rw [if_pos (show (-1 : Int32) < 0 by decide), b1_some, if_pos rfl, takeNo1 q2, b2_some, if_pos rfl]
      exact bad _
    · rw [q3, q4, q6, if_pos rfl, M_in0 m2 (by omega) (by omega), if_neg (show ¬ b ≤ A 0 0 - 1 by omega), b1_some, if_pos rfl, if_neg (fun z => by have := nI_inj (by omega) (by omega) z; omega)]
      unfold Rd_isLinked
      have g1 : Rd_takeNumber k2 0 (nI (A 0 0 - 1)) = some (-1, k2) := takeNo2 (lo := 0) q6 q1 (by omega) (by omega) q2
      rw [b1'', if_neg (fun z => by have := (nI_ltI (b := 0) (by omega) (by omega)).mp z; omega), if_pos ((nI_leI (by omega) (by omega)).mpr (by omega)), b1_some, if_pos rfl, hm1, g1, b2_some, if_pos rfl]
      exact bad _
  · have e1 : Rd_takeNumber k1 0 (nI (A 0 0 - 1)) = some (-1, k1) := e1
    have e2 : M_number m1 0 (nI (A 0 0 - 1)) = some (gt m1 0 9, bdM m1) := e2
    rw [e1, b2_some, if_pos rfl, e2, b2_some, lt_e, rdz (by omega) (by omega), b1_some, bdM_s (by omega) (by omega), bdM_s (by omega) (by omega), J87_b bdM_f, J87_b bdM_f]
    obtain ⟨z, hz⟩ := M_in_any (bdM m1) (gt m1 0 9) 0 (gt (bdM m1) 3 0 - 1)
    rw [show (0 : Int32).toInt64 = (0 : Int64) by decide] at hz
    rw [hz, b1_some, if_pos rfl]
    have : (if gt m1 0 8 = 2 then if z = 0 then some (bdM m1) else some (bdM m1) else some (bdM m1)) = some (bdM m1) := by
      by_cases c : gt m1 0 8 = 2
      · rw [if_pos c]; split <;> rfl
      · rw [if_neg c]
    rw [this]
    exact Or.inr ⟨_, _, rfl, rfl, c3.bad hd1.z⟩
