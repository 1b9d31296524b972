/-! ===== PHASE B: the native format ===== -/
/-- nodes, links and cpus of the draft -/
def D0 (A : Ab) (k m : St) : Prop := ((2 ≤ A 0 0 ∧ A 0 0 ≤ 16 ∧ A 0 1 ≤ 32) ∧ (∀ l, l < A 0 1 → A 1 l < A 0 0 ∧ A 2 l < A 0 0 ∧ A 1 l ≠ A 2 l ∧ 1 ≤ A 3 l ∧ A 3 l ≤ 99 ∧ A 7 l ≤ 9999) ∧ (∀ a b l l2, Lk A a b l → Lk A a b l2 → l = l2) ∧ ∀ n, n < 16 → A 4 n ≤ 999) ∧ ((gt m 3 0 = nI (A 0 0) ∧ gt m 3 1 = nI (A 0 1)) ∧ (∀ l, l < A 0 1 → gt m 3 (4 + 4 * l) = nI (A 1 l) ∧ gt m 3 (4 + 4 * l + 1) = nI (A 2 l) ∧ gt m 3 (4 + 4 * l + 2) = nI (A 7 l) ∧ gt m 3 (4 + 4 * l + 3) = nI (A 3 l)) ∧ (∀ n, n < 16 → gt m 3 (132 + n) = nI (A 4 n))) ∧ ((gt k 10 0 = nI (A 0 0) ∧ gt k 10 1 = nI (A 0 1)) ∧ (∀ l, l < A 0 1 → gt k 11 l = nI (A 1 l) ∧ gt k 12 l = nI (A 2 l) ∧ gt k 13 l = nI (A 7 l) ∧ gt k 14 l = nI (A 3 l)) ∧ (∀ a b, a < 16 → b < 16 → (∀ l, Lk A a b l → gt k 15 (a * 16 + b) = nI l) ∧ ((∀ l, ¬ Lk A a b l) → gt k 15 (a * 16 + b) = -1)) ∧ (∀ n, n < 16 → gt k 16 n = nI (A 4 n)))
theorem D1.d0 {A : Ab} {k m : St} (h : D1 A k m) : D0 A k m := by
  obtain ⟨w, ⟨⟨a1, a2, a3⟩, a4, a5, a6⟩, b1', b3', b4', b5', b6'⟩ := h
  exact ⟨w, ⟨⟨a1, a2⟩, a4, a5⟩, b1', b3', b4', b5'⟩
theorem D0.c {A A2 : Ab} {k m k2 m2 : St} (h : D0 A k m) (hA : ∀ a j, a < 5 ∨ a = 7 → (a ≠ 0 ∨ j < 2) → A2 a j = A a j) (hk0 : ∀ i, i < 2 → gt k2 10 i = gt k 10 i) (hk : ∀ j, 11 ≤ j → j ≤ 16 → k2.1 j = k.1 j) (hm : ∀ i, i < 2 ∨ (4 ≤ i ∧ i < 148) → gt m2 3 i = gt m 3 i) : D0 A2 k2 m2 := by
  obtain ⟨⟨⟨w1, w2, w3⟩, w4, w5, w6⟩, ⟨⟨a1, a2⟩, a4, a5⟩, ⟨b1', b2'⟩, b3', b4', b5'⟩ := h
  have eL : ∀ a b l, Lk A2 a b l ↔ Lk A a b l := fun a b l => by
    unfold Lk; rw [hA 0 1 (by omega) (by omega), hA 1 _ (by omega) (by omega), hA 2 _ (by omega) (by omega)]
  have gK : ∀ j i, 11 ≤ j → j ≤ 16 → gt k2 j i = gt k j i := fun j i x y => by rw [gt_e, hk j x y]; rfl
  have e0 := hA 0 0 (by omega) (by omega)
  have e1 := hA 0 1 (by omega) (by omega)
  refine ⟨⟨by rw [e0, e1]; exact ⟨w1, w2, w3⟩, fun l hl => ?_, fun a b l l2 h1 h2 => w5 a b l l2 ((eL a b l).mp h1) ((eL a b l2).mp h2), fun j hj => ?_⟩, ⟨⟨?_, ?_⟩, fun l hl => ?_, fun j hj => ?_⟩, ⟨?_, ?_⟩, fun l hl => ?_, fun a b ha hb => ?_, fun j hj => ?_⟩
  · rw [e1] at hl
    rw [e0, hA 1 _ (by omega) (by omega), hA 2 _ (by omega) (by omega), hA 3 _ (by omega) (by omega), hA 7 _ (by omega) (by omega)]; exact w4 l hl
  · rw [hA 4 _ (by omega) (by omega)]; exact w6 j hj
  · rw [hm _ (by omega), e0]; exact a1
  · rw [hm _ (by omega), e1]; exact a2
  · rw [e1] at hl
    rw [hm _ (by omega), hm _ (by omega), hm _ (by omega), hm _ (by omega), hA 1 _ (by omega) (by omega), hA 2 _ (by omega) (by omega), hA 3 _ (by omega) (by omega), hA 7 _ (by omega) (by omega)]; exact a4 l hl
  · rw [hm _ (by omega), hA 4 _ (by omega) (by omega)]; exact a5 j hj
  · rw [hk0 _ (by omega), e0]; exact b1'
  · rw [hk0 _ (by omega), e1]; exact b2'
  · rw [e1] at hl
    rw [gK _ _ (by omega) (by omega), gK _ _ (by omega) (by omega), gK _ _ (by omega) (by omega), gK _ _ (by omega) (by omega), hA 1 _ (by omega) (by omega), hA 2 _ (by omega) (by omega), hA 3 _ (by omega) (by omega), hA 7 _ (by omega) (by omega)]; exact b3' l hl
  · rw [gK _ _ (by omega) (by omega)]
    exact ⟨fun l hl => (b4' a b ha hb).1 l ((eL a b l).mp hl), fun z => (b4' a b ha hb).2 (fun l hl => z l ((eL a b l).mpr hl))⟩
  · rw [gK _ _ (by omega) (by omega), hA 4 _ (by omega) (by omega)]; exact b5' j hj
/-- one format's rates, as far as they are read -/
def PT (A : Ab) (f l : Nat) (k m : St) : Prop := (∀ j, j < l → gt m 3 (148 + 5 * f + j) = nI (A 6 (5 * f + j)) ∧ 1 ≤ A 6 (5 * f + j) ∧ A 6 (5 * f + j) ≤ 999) ∧ ∀ j, j ≤ l → gt k 18 (f * 6 + j) = nI (rt A f j)
theorem rt_c {A A2 : Ab} {f : Nat} : ∀ l, (∀ j, j < l → A2 6 (5 * f + j) = A 6 (5 * f + j)) → rt A2 f l = rt A f l := by
  intro l
  induction l with
  | zero => intro _; rfl
  | succ l ih => intro h; rw [rt, rt, ih (fun j hj => h j (by omega)), h l (by omega)]
theorem PT.c {A A2 : Ab} {f l : Nat} {k m k2 m2 : St} (h : PT A f l k m) (hA : ∀ j, j < l → A2 6 (5 * f + j) = A 6 (5 * f + j)) (hk : ∀ j, j ≤ l → gt k2 18 (f * 6 + j) = gt k 18 (f * 6 + j)) (hm : ∀ j, j < l → gt m2 3 (148 + 5 * f + j) = gt m 3 (148 + 5 * f + j)) : PT A2 f l k2 m2 :=
  ⟨fun j hj => by rw [hA j hj, hm j hj]; exact h.1 j hj, fun j hj => by rw [hk j hj, rt_c j (fun i hi => hA i (by omega))]; exact h.2 j hj⟩
theorem PT.add {A : Ab} {f l v : Nat} {k m : St} (h : PT A f l k m) (h1 : 1 ≤ v) (h2 : v ≤ 999) : PT (up2 A 6 (5 * f + l) v) f (l + 1) (st k 18 (f * 6 + (l + 1)) (nI (rt A f l + v))) (st m 3 (148 + 5 * f + l) (nI v)) := by
  refine ⟨fun j hj => ?_, fun j hj => ?_⟩
  · by_cases q : j = l
    · rw [q, up2_same, gt_st_same]; exact ⟨rfl, h1, h2⟩
    · rw [up2_ne (by omega), gt_st_i (by omega)]; exact h.1 j (by omega)
  · by_cases q : j = l + 1
    · rw [q, gt_st_same, rt, up2_same, rt_c (A := A) l (fun i hi => up2_ne (by omega))]
    · rw [gt_st_i (by omega), rt_c (A := A) j (fun i hi => up2_ne (by omega))]; exact h.2 j (by omega)
def DN (A : Ab) (F L : Nat) (k m : St) : Prop := D0 A k m ∧ (∀ f, f < 4 → gt m 3 (168 + f) = nI (A 5 f) ∧ A 5 f ≤ 99) ∧ (∀ f, 1 ≤ f → f < F → gt k 17 f = nI (A 5 f)) ∧ (∀ f, f < F → PT A f L k m) ∧ (gt m 3 2 = nI F ∧ gt m 3 3 = nI L ∧ gt k 10 2 = nI F ∧ gt k 10 3 = nI L) ∧ (1 ≤ F ∧ F ≤ 4 ∧ 1 ≤ L ∧ L ≤ 5) ∧ ZR k
theorem DN.row {A : Ab} {F L : Nat} {k m k2 m2 : St} (h : DN A F L k m) (h1 : ∀ j, 10 ≤ j → j ≤ 18 → k2.1 j = k.1 j) (h2 : m2.1 3 = m.1 3) : DN A F L k2 m2 := by
  obtain ⟨d1, d2, d3, d4, ⟨d5, d6, d7, d8⟩, d9, d10⟩ := h
  have g : ∀ j i, 10 ≤ j → j ≤ 18 → gt k2 j i = gt k j i := fun j i x y => by rw [gt_e, h1 j x y]; rfl
  have gm : ∀ i, gt m2 3 i = gt m 3 i := fun i => by rw [gt_e, h2]; rfl
  exact ⟨d1.c (fun _ _ _ _ => rfl) (fun i _ => g 10 i (by omega) (by omega)) (fun j x y => h1 j (by omega) (by omega)) (fun i _ => gm i), fun f hf => by rw [gm]; exact d2 f hf, fun f x y => by rw [g 17 _ (by omega) (by omega)]; exact d3 f x y, fun f hf => (d4 f hf).c (fun _ _ => rfl) (fun j _ => g 18 _ (by omega) (by omega)) (fun j _ => gm _), ⟨by rw [gm]; exact d5, by rw [gm]; exact d6, by rw [g 10 _ (by omega) (by omega)]; exact d7, by rw [g 10 _ (by omega) (by omega)]; exact d8⟩, d9, fun f hf => by rw [g 18 _ (by omega) (by omega)]; exact d10 f hf⟩
theorem DN.f {A : Ab} {F L : Nat} {k m k2 m2 : St} (h : DN A F L k m) (h1 : FnK k k2) (h2 : FnM m m2) : DN A F L k2 m2 := h.row (fun j x y => h1 j (by omega)) (h2.1 3 (by omega))
theorem PT.f {A : Ab} {f l : Nat} {k m k2 m2 : St} (h : PT A f l k m) (h1 : FnK k k2) (h2 : FnM m m2) : PT A f l k2 m2 := h.c (fun _ _ => rfl) (fun j _ => by rw [gt_e, h1 18 (by omega)]; rfl) (fun j _ => by rw [gt_e, h2.1 3 (by omega)]; rfl)
theorem D0.f {A : Ab} {k m k2 m2 : St} (h : D0 A k m) (h1 : FnK k k2) (h2 : FnM m m2) : D0 A k2 m2 := h.c (fun _ _ _ _ => rfl) (fun i _ => by rw [gt_e, h1 10 (by omega)]; rfl) (fun j x y => h1 j (by omega)) (fun i _ => by rw [gt_e, h2.1 3 (by omega)]; rfl)
theorem ZR.put {k : St} (h : ZR k) {f l : Nat} {x : Int32} (hl : l < 5) : ZR (st k 18 (f * 6 + (l + 1)) x) := fun g hg => by rw [gt_st_i (by omega)]; exact h g hg
theorem PS.kd {T : Nat} {B : Nat → Nat} {k m : St} (h : PS T B k m) : gt k 155 2 = gt m 0 8 := by
  obtain ⟨hT, hf, kd, s, e, v, p1, p2, p3, ⟨p4, p5, p6⟩, ⟨p7, p8, p9⟩, _⟩ := h
  rw [p6, p7]
theorem M_in19 (q : St) {v : Nat} (h1 : v < 2 ^ 31) : M_in q (nI v).toInt64 (1 : Int64) (999 : Int64) = some (if 1 ≤ v ∧ v ≤ 999 then 1 else 0) := by
  have h := M_inN q (lo := 1) (hi := 999) h1 (by omega) (by omega)
  rw [show (nI 1).toInt64 = (1 : Int64) by decide, show (nI 999).toInt64 = (999 : Int64) by decide] at h
  exact h
theorem rate_no1 {k : St} (h : gt k 155 3 = -1) (a b : Int32) : Rd_takeRate k a b = some (0, k) := by
  unfold Rd_takeRate; rw [h, if_pos (by decide)]
theorem rate_no2 {k : St} {n : Nat} (h : gt k 155 3 = nI n) (hn : n ≤ 9999) (h2 : ¬ (1 ≤ n ∧ n ≤ 999)) (a b : Int32) : Rd_takeRate k a b = some (0, k) := by
  unfold Rd_takeRate; rw [h, li1]
  by_cases c : n < 1
  · rw [if_pos ((nI_ltI (by omega) (by omega)).mpr c)]
  · rw [if_neg (fun z => c ((nI_ltI (by omega) (by omega)).mp z)), if_neg (show ¬ nI n ≤ (999 : Int32) from fun z => by have := (nI_leI (b := 999) (by omega) (by omega)).mp z; omega)]
theorem rate_e {k k2 : St} {f l n r : Nat} (h : gt k 155 3 = nI n) (h1 : 1 ≤ n) (h2 : n ≤ 999) (hf : f < 4) (hl : l < 5) (hr : gt k 18 (f * 6 + l) = nI r) (hn : Rd_nextToken (st k 18 (f * 6 + (l + 1)) (nI (r + n))) = some k2) : Rd_takeRate k (nI f) (nI (l + 1)) = some (1, k2) := by
  unfold Rd_takeRate Su_putRate
  rw [h, if_neg (show ¬ nI n < (1 : Int32) from fun z => by have := (nI_ltI (b := 1) (by omega) (by omega)).mp z; omega), if_pos (show nI n ≤ (999 : Int32) from (nI_leI (b := 999) (by omega) (by omega)).mpr h2), li6, pk_mul, nI_add, lt_e, show nI (f * 6 + (l + 1)) - 1 = nI (f * 6 + l) from sub_le (a := f * 6 + (l + 1)) (b := 1) (by omega), rd_n (by omega) (by omega), b1_some, show (10 + 8 : Nat) = 18 from rfl, hr, nI_add, wr_n (by omega) (by omega), b1_some, b1_some, hn, b1_some]
def NatO (T : Nat) (B : Nat → Nat) (k m : St) (rk : Option (Int32 × St)) (rm : Option St) : Prop := (∃ A2 L k2 m2, rk = some (1, k2) ∧ rm = some m2 ∧ PS T B k2 m2 ∧ DN A2 1 L k2 m2 ∧ FpK k k2 ∧ FpM m m2) ∨ (∃ k2 m2, rk = some (0, k2) ∧ rm = some m2 ∧ BadO k m k2 m2)
theorem NatO.tr {T : Nat} {B : Nat → Nat} {k m k1 m1 : St} {rk : Option (Int32 × St)} {rm : Option St} (h : NatO T B k1 m1 rk rm) (f1 : FpK k k1) (f2 : FpM m m1) : NatO T B k m rk rm := by
  rcases h with ⟨A2, L, k2, m2, h1, h2, h3, h4, h6, h7⟩ | ⟨k2, m2, h1, h2, h3⟩
  · exact Or.inl ⟨A2, L, k2, m2, h1, h2, h3, h4, f1.tr h6, f2.tr h7⟩
  · exact Or.inr ⟨k2, m2, h1, h2, h3.tr f1 f2⟩
/-- what holds while the native rates are read -/
def DQ (A : Ab) (l : Nat) (k m : St) : Prop := D0 A k m ∧ ZR k ∧ PT A 0 l k m ∧ (∀ f, f < 4 → gt m 3 (168 + f) = 0 ∧ A 5 f = 0) ∧ gt m 3 2 = 1 ∧ gt m 3 3 = nI l
theorem nat_end {T : Nat} {B : Nat → Nat} {A : Ab} {l : Nat} {k m : St} (h : PS T B k m) (hd : DQ A l k m) (h1 : 1 ≤ l) (h5 : l ≤ 5) : (gt m 0 8 = 3 ∧ ∃ k2 m2, Rd_readNative_J57 (nI l) k = some (1, k2) ∧ M_takes m 1 = some m2 ∧ PS T B k2 m2 ∧ DN A 1 l k2 m2 ∧ FpK k k2 ∧ FpM m m2) ∨ (gt m 0 8 ≠ 3 ∧ ∃ k2, Rd_readNative_J57 (nI l) k = some (0, k2) ∧ BadO k m k2 (bdM m)) := by
  obtain ⟨d1, d2, d3, d4, d5, d6⟩ := hd
  unfold Rd_readNative_J57
  rw [lt_e, lt_e]
  have hP : PS T B (st (st k 10 3 (nI l)) 10 2 1) m := h.row (fun j hj => by rw [st_row_ne (by omega), st_row_ne (by omega)]) (fun _ _ => rfl) rfl
  have fk : FpK k (st (st k 10 3 (nI l)) 10 2 1) := fun j x y => by rw [st_row_ne (by omega), st_row_ne (by omega)]
  have hz : ZR (st (st k 10 3 (nI l)) 10 2 1) := fun f hf => by rw [gt_st_k (by omega), gt_st_k (by omega)]; exact d2 f hf
  have hD : DN A 1 l (st (st k 10 3 (nI l)) 10 2 1) m := by
    refine ⟨d1.c (fun _ _ _ _ => rfl) (fun i hi => by rw [gt_st_i (by omega), gt_st_i (by omega)]) (fun j x y => by rw [st_row_ne (by omega), st_row_ne (by omega)]) (fun _ _ => rfl), fun f hf => ?_, fun f x y => by omega, fun f hf => ?_, ⟨d5, d6, by rw [gt_st_same]; rfl, by rw [gt_st_i (by omega), gt_st_same]⟩, ⟨by omega, by omega, h1, h5⟩, hz⟩
    · rw [(d4 f hf).1, (d4 f hf).2]; exact ⟨rfl, by omega⟩
    · have : f = 0 := by omega
      subst this
      exact d3.c (fun _ _ => rfl) (fun j _ => by rw [gt_st_k (by omega), gt_st_k (by omega)]) (fun _ _ => rfl)
  rcases semi_both hP with ⟨s1, k1, m1, s2, s3, s4, s5, s6⟩ | ⟨s1, s2, s3⟩
  · rw [s2, b2_some]
    exact Or.inl ⟨s1, k1, m1, rfl, s3, s4, hD.f s5 s6, fk.tr s5.p, s6.p⟩
  · rw [s2, b2_some]
    exact Or.inr ⟨s1, _, rfl, hP.bd, hz, fk, FpM.bd⟩
theorem n122_b {m : St} (h : gt m 0 11 = 0) : M_readNative_J122 m = some m := by
  unfold M_readNative_J122 M_readNative_J136; rw [takes_b h, takes_b h, b1_some]; split <;> rfl
theorem nL_b {kk : St → Option St} (hkk : ∀ q, kk q = M_readNative_J122 q) {fu : Nat} {m : St} (h : gt m 0 11 = 0) (v : Int32) : M_readNative_L20 kk (fu + 1) v m = some m := by
  rw [M_readNative_L20]; unfold M_readNative_B20; rw [if_pos h, hkk, n122_b h]
theorem n73_b {kk : St → Option St} (hkk : ∀ q, kk q = M_readNative_J122 q) {fu : Nat} {m : St} (h : gt m 0 11 = 1) (v2 v3 : Int32) : M_readNative_J73 kk (M_readNative_L20 kk (fu + 1)) v2 v3 m = some (bdM m) := by
  unfold M_readNative_J73 M_readNative_J74 M_readNative_J105
  rw [takes_0 h, b1_some, if_pos bdM_f, nL_b hkk bdM_f, nL_b hkk bdM_f]; split <;> rfl
/-- one more native rate, on both sides -/
theorem nat_rate {T : Nat} {B : Nat → Nat} {A : Ab} {l n : Nat} {k m : St} (h : PS T B k m) (hd : DQ A l k m) (hl : l < 5) (h3 : gt k 155 3 = nI n) (h1 : 1 ≤ n) (h2 : n ≤ 999) (kk : St → Option St) (rec : Int32 → St → Option St) : ∃ A2 k2 m2, Rd_takeRate k 0 (nI (l + 1)) = some (1, k2) ∧ M_readNative_J74 kk rec (nI l) (nI n) 1 m = M_readNative_J105 kk rec m2 ∧ PS T B k2 m2 ∧ DQ A2 (l + 1) k2 m2 ∧ FpK k k2 ∧ FpM m m2 := by
  obtain ⟨d1, d2, d3, d4, d5, d6⟩ := hd
  have hP : PS T B (st k 18 (0 * 6 + (l + 1)) (nI (rt A 0 l + n))) m := h.row (fun j hj => by rw [st_row_ne (by omega)]) (fun _ _ => rfl) rfl
  obtain ⟨k2, m2, c1, c2, c3, c4, c5⟩ := hP.next
  have e := rate_e (f := 0) h3 h1 h2 (by omega) hl (d3.2 l (by omega)) c2
  unfold M_readNative_J74
  rw [takes_1 h.2.1 c1, b1_some, c3.2.1, if_neg (show ¬ (1 : Int32) = 0 by decide), li148, nI_add, wr_n (by omega) (by omega), b1_some, rd_at 3 li3 (by omega) (by omega), b1_some, gt_st_i (by omega), show gt m2 3 3 = nI l by rw [gt_e, c5.1 3 (by omega)]; exact d6, nI_1, wr_at 3 li3 (by omega) (by omega), b1_some]
  have d0 := (d3.add h1 h2).c (k2 := k2) (m2 := st (st m2 3 (148 + l) (nI n)) 3 3 (nI (l + 1))) (A2 := up2 A 6 (5 * 0 + l) n) (fun _ _ => rfl) (fun j _ => by rw [gt_e, c4 18 (by omega)]; rfl) (fun j hj => by
    rw [gt_st_i (by omega)]
    by_cases q : j = l
    · rw [q, show 148 + 5 * 0 + l = 148 + l by omega, gt_st_same, gt_st_same]
    · rw [gt_st_i (by omega), gt_st_i (by omega), gt_e, c5.1 3 (by omega)]; rfl)
  have gm : ∀ i, i ≠ 3 → i ≠ 148 + l → gt (st (st m2 3 (148 + l) (nI n)) 3 3 (nI (l + 1))) 3 i = gt m 3 i := fun i x y => by
    rw [gt_st_i x, gt_st_i y, gt_e, c5.1 3 (by omega)]; rfl
  refine ⟨up2 A 6 (5 * 0 + l) n, k2, _, e, rfl, c3.row (fun _ _ => rfl) (fun j hj => by rw [st_row_ne (by omega), st_row_ne (by omega)]) rfl, ⟨d1.c (fun a j x y => up2_ne (by omega)) (fun i hi => by rw [gt_e, c4 10 (by omega)]; exact gt_st_k (by omega)) (fun j x y => by rw [c4 j (by omega), st_row_ne (by omega)]) (fun i hi => gm i (by omega) (by omega)), (d2.put hl).f c4, d0, fun f hf => ?_, ?_, gt_st_same⟩, ?_, ?_⟩
  · rw [gm _ (by omega) (by omega), up2_ne (by omega)]; exact d4 f hf
  · rw [gm _ (by omega) (by omega)]; exact d5
  · exact FpK.tr (fun j x y => st_row_ne (by omega)) c4.p
  · exact c5.p.tr (FpM.r3 (fun j y => by rw [st_row_ne y, st_row_ne y]))
theorem nat_loop {T : Nat} {B : Nat → Nat} {kk : St → Option St} (hkk : ∀ q, kk q = M_readNative_J122 q) {kK : Int32 → St → Option (Int32 × St)} (hkK : ∀ y q, kK y q = Rd_readNative_J57 y q) : ∀ (fu fu2 l : Nat) (A : Ab) (k m : St), PS T B k m → DQ A l k m → 1 ≤ l → l ≤ 5 → 6 ≤ l + fu → 8 ≤ l + fu2 → NatO T B k m (Rd_readNative_L24 kK fu (nI l) (nI l) k) (M_readNative_J105 kk (M_readNative_L20 kk fu2) m) := by
  intro fu
  induction fu with
  | zero => intro fu2 l A k m h hd h1 h5 hf; omega
  | succ fu ih =>
    intro fu2 l A k m h hd h1 h5 hf hf2
    obtain ⟨f2, rfl⟩ : ∃ f2, fu2 = f2 + 1 + 1 := ⟨fu2 - 2, by omega⟩
    rw [Rd_readNative_L24]; unfold Rd_readNative_B24
    rw [hkK, h.kd]
    unfold M_readNative_J105
    rcases nat_end h hd h1 h5 with ⟨e0, k2, m2, e1, e2, e3, e4, e5, e6⟩ | ⟨e0, k2, e1, e2⟩
    · have hM : M_readNative_L20 kk (f2 + 1 + 1) 0 m = some m2 := by
        rw [M_readNative_L20]; unfold M_readNative_B20
        rw [h.2.1, if_neg (show ¬ (1 : Int32) = 0 by decide), if_pos rfl, hkk]
        unfold M_readNative_J122 M_readNative_J136
        rw [if_pos e0, e2, b1_some]
      rw [if_pos e0, hM, e0, if_neg (show ¬ (3 : Int32) = 2 by decide), e1]
      have : (if (5 : Int32) ≤ nI l then some ((1 : Int32), k2) else some (1, k2)) = some (1, k2) := by split <;> rfl
      rw [this]
      exact Or.inl ⟨A, l, k2, m2, rfl, rfl, e3, e4, e5, e6⟩
    · rw [if_neg e0, M_readNative_L20]; unfold M_readNative_B20
      rw [h.2.1, if_neg (show ¬ (1 : Int32) = 0 by decide), if_neg (show ¬ (1 : Int32) = 0 by decide), rd_at 3 li3 (by omega) (by omega), b1_some, hd.2.2.2.2.2, lt_e, n73_b hkk h.2.1]
      by_cases c : l = 5
      · rw [c] at e1 ⊢
        rw [if_pos (show (5 : Int32) ≤ nI 5 by decide), e1, if_pos (show (5 : Int32) ≤ nI 5 by decide)]
        rcases num_c h 1 999 with ⟨n, n1, n2, n3, n4, n5, n6, n7⟩ | (⟨q1, q2, q3⟩ | ⟨n, q1, q2, q3, q4, q5, q6⟩)
        · rw [n5, M_in19 m (by omega), if_pos (show 1 ≤ n ∧ n ≤ 999 from ⟨n1, n2⟩), b1_some, if_neg (show ¬ (1 : Int32) = 0 by decide), n4, if_pos rfl]
          exact Or.inr ⟨_, _, rfl, rfl, e2⟩
        · rw [if_neg q1]; exact Or.inr ⟨_, _, rfl, rfl, e2⟩
        · rw [q4, M_in19 m (by omega), if_neg q2, b1_some, if_pos rfl, q3, if_pos rfl]
          exact Or.inr ⟨_, _, rfl, rfl, e2⟩
      · have h5' : ¬ (5 : Int32) ≤ nI l := fun z => by have := (nI_leI (a := 5) (by omega) (by omega)).mp z; omega
        rw [if_neg h5', if_neg h5']
        rcases num_c h 1 999 with ⟨n, n1, n2, n3, n4, n5, n6, n7⟩ | (⟨q1, q2, q3⟩ | ⟨n, q1, q2, q3, q4, q5, q6⟩)
        · rw [n5, M_in19 m (by omega), if_pos (show 1 ≤ n ∧ n ≤ 999 from ⟨n1, n2⟩), b1_some, if_neg (show ¬ (1 : Int32) = 0 by decide), n4, if_pos rfl, if_pos rfl, nI_1]
          obtain ⟨A2, k3, m3, r1, r2, r3, r4, r5, r6⟩ := nat_rate h hd (by omega) n7 n1 n2 kk (M_readNative_L20 kk (f2 + 1))
          rw [r1, r2, b2_some, if_neg (show ¬ (1 : Int32) = 0 by decide)]
          exact NatO.tr (ih (f2 + 1) (l + 1) A2 k3 m3 r3 r4 (by omega) (by omega) (by omega) (by omega)) r5 r6
        · rw [if_neg q1, if_neg q1, e1]; exact Or.inr ⟨_, _, rfl, rfl, e2⟩
        · rw [q4, M_in19 m (by omega), if_neg q2, b1_some, if_pos rfl, q3, if_pos rfl, if_pos rfl, rate_no2 q6 q1 q2, b2_some, if_pos rfl]
          exact Or.inr ⟨_, _, rfl, rfl, h.bad hd.2.1⟩
def z5 (A : Ab) : Ab := fun a j => if a = 5 then 0 else A a j
theorem native_both {T : Nat} {B : Nat → Nat} {A : Ab} {k m : St} (h : PS T B k m) (hd : D1 A k m) : NatO T B k m (Rd_readNative k) (M_readNative m) := by
  unfold Rd_readNative M_readNative
  rcases word_take h (w := 5) (by omega) with ⟨k1, m1, a1, a2, a3, a4, a5, a6⟩ | ⟨a1, a2, a3⟩
  · have a2 : M_isWord m 471475909 = some 1 := a2
    have hd1 := hd.f a5 a6
    rw [a1, a2, b1_some, b2_some, a3, b1_some, if_neg (show ¬ (1 : Int32) = 0 by decide), wr_at 2 li2 (by omega) (by omega), b1_some]
    refine NatO.tr ?_ a5.p (a6.p.tr (b := m1) (c := st m1 3 2 1) (FpM.r3 (fun j y => st_row_ne y)))
    have hP : PS T B k1 (st m1 3 2 1) := a4.row (fun _ _ => rfl) (fun j hj => st_row_ne (by omega)) rfl
    have hQ : DQ (z5 A) 0 k1 (st m1 3 2 1) := by
      refine ⟨hd1.d0.c (fun a j x y => if_neg (by omega)) (fun _ _ => rfl) (fun _ _ _ => rfl) (fun i hi => gt_st_i (by omega)), hd1.z, ⟨fun j hj => by omega, fun j hj => ?_⟩, fun f hf => ⟨by rw [gt_st_i (by omega)]; exact hd1.2.1.2.2.2 f hf, rfl⟩, gt_st_same, by rw [gt_st_i (by omega)]; exact hd1.2.1.1.2.2⟩
      have : j = 0 := by omega
      subst this
      exact hd1.z 0 (by omega)
    obtain ⟨f2, hf2⟩ : ∃ f2, FU = f2 + 1 + 1 := ⟨FU - 2, by rw [FU_e]⟩
    have hfu : 100 ≤ f2 := by have := FU_e; omega
    rw [hf2, M_readNative_L20]; unfold M_readNative_B20
    rw [hP.2.1, if_neg (show ¬ (1 : Int32) = 0 by decide), if_neg (show ¬ (1 : Int32) = 0 by decide), rd_at 3 li3 (by omega) (by omega), b1_some, hQ.2.2.2.2.2, lt_e, n73_b (fun _ => rfl) hP.2.1, if_neg (show ¬ (5 : Int32) ≤ nI 0 by decide)]
    rcases num_c hP 1 999 with ⟨n, n1, n2, n3, n4, n5, n6, n7⟩ | (⟨q1, q2, q3⟩ | ⟨n, q1, q2, q3, q4, q5, q6⟩)
    · rw [n5, M_in19 _ (by omega), if_pos (show 1 ≤ n ∧ n ≤ 999 from ⟨n1, n2⟩), b1_some, if_neg (show ¬ (1 : Int32) = 0 by decide), n4, if_pos rfl]
      obtain ⟨A2, k3, m3, r1, r2, r3, r4, r5, r6⟩ := nat_rate hP hQ (by omega) n7 n1 n2 (fun q18 => M_readNative_J122 q18) (M_readNative_L20 (fun q18 => M_readNative_J122 q18) (f2 + 1))
      have r1 : Rd_takeRate k1 0 1 = some (1, k3) := r1
      rw [r1, r2, b2_some, if_neg (show ¬ (1 : Int32) = 0 by decide)]
      exact NatO.tr (nat_loop (fun _ => rfl) (fun _ _ => rfl) _ _ 1 A2 k3 m3 r3 r4 (by omega) (by omega) (by omega) (by omega)) r5 r6
    · rw [if_neg q1, rate_no1 q3, b2_some, if_pos rfl]; exact Or.inr ⟨_, _, rfl, rfl, hP.bad hQ.2.1⟩
    · rw [q4, M_in19 _ (by omega), if_neg q2, b1_some, if_pos rfl, q3, if_pos rfl, rate_no2 q6 q1 q2, b2_some, if_pos rfl]
      exact Or.inr ⟨_, _, rfl, rfl, hP.bad hQ.2.1⟩
  · have a2 : M_isWord m 471475909 = some 0 := a2
    have hb : gt (st (bdM m) 3 2 1) 0 11 = 0 := by rw [gt_st_k (by omega)]; exact bdM_f
    obtain ⟨f2, hf2⟩ : ∃ f2, FU = f2 + 1 := ⟨FU - 1, by rw [FU_e]⟩
    rw [a1, a2, b1_some, b2_some, a3, b1_some, if_pos rfl, wr_at 2 li2 (by omega) (by omega), b1_some, hf2, nL_b (fun _ => rfl) hb]
    refine Or.inr ⟨_, _, rfl, rfl, ⟨hb, ?_⟩, hd.z, FpK.rf, FpM.bd.tr (FpM.r3 (fun j y => st_row_ne y))⟩
    rw [gt_st_k (by omega)]; exact h.bd.2
