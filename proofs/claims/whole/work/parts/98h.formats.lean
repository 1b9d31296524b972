/-! ===== PHASE B: formats ===== -/
theorem numM_yes {m m2 : St} {n lo hi : Nat} (h8 : gt m 0 8 = 2) (h9 : gt m 0 9 = nI n) (hn : n ≤ 9999) (h1 : lo ≤ 9999) (h2 : hi ≤ 9999) (h3 : lo ≤ n ∧ n ≤ hi) (ht : M_takes m 1 = some m2) : M_number m (nI lo) (nI hi) = some (nI n, m2) := by
  unfold M_number M_number_J30 M_number_J31
  rw [h8, h9, lt_e, if_pos rfl, M_inN m (by omega) (by omega) (by omega), if_pos h3, b1_some, if_neg (by decide), ht, b1_some]
theorem numM_no1 {m : St} (hf : gt m 0 11 = 1) (h8 : gt m 0 8 ≠ 2) (lo hi : Int32) : M_number m lo hi = some (gt m 0 9, bdM m) := by
  unfold M_number M_number_J30 M_number_J31
  rw [lt_e, if_neg h8, takes_0 hf, b1_some]
theorem numM_no2 {m : St} {n lo hi : Nat} (hf : gt m 0 11 = 1) (h8 : gt m 0 8 = 2) (h9 : gt m 0 9 = nI n) (hn : n ≤ 9999) (h1 : lo ≤ 9999) (h2 : hi ≤ 9999) (h3 : ¬ (lo ≤ n ∧ n ≤ hi)) : M_number m (nI lo) (nI hi) = some (nI n, bdM m) := by
  unfold M_number M_number_J30 M_number_J31
  rw [h8, h9, lt_e, if_pos rfl, M_inN m (by omega) (by omega) (by omega), if_neg h3, b1_some, if_pos rfl, takes_0 hf, b1_some]
theorem DN.rate {A : Ab} {F L l n : Nat} {k m : St} {x y : Int32} (h : DN A F L k m) (hl : l < 5) (hF : F < 4) : DN (up2 A 6 (5 * F + l) n) F L (st k 18 (F * 6 + (l + 1)) x) (st m 3 (148 + 5 * F + l) y) := by
  obtain ⟨d1, d2, d3, d4, ⟨d5, d6, d7, d8⟩, d9, d10⟩ := h
  refine ⟨d1.c (fun a j p q => up2_ne (by omega)) (fun i hi => gt_st_k (by omega)) (fun j p q => st_row_ne (by omega)) (fun i hi => gt_st_i (by omega)), fun f hf => ?_, fun f p q => ?_, fun f hf => ?_, ⟨?_, ?_, ?_, ?_⟩, d9, d10.put hl⟩
  · rw [gt_st_i (by omega), up2_ne (by omega)]; exact d2 f hf
  · rw [gt_st_k (by omega), up2_ne (by omega)]; exact d3 f p q
  · exact (d4 f hf).c (fun j hj => up2_ne (by omega)) (fun j hj => gt_st_i (by omega)) (fun j hj => gt_st_i (by omega))
  · rw [gt_st_i (by omega)]; exact d5
  · rw [gt_st_i (by omega)]; exact d6
  · rw [gt_st_k (by omega)]; exact d7
  · rw [gt_st_k (by omega)]; exact d8
theorem DN.k17 {A : Ab} {F L : Nat} {k m : St} {x : Int32} (h : DN A F L k m) : DN A F L (st k 17 F x) m := by
  obtain ⟨d1, d2, d3, d4, ⟨d5, d6, d7, d8⟩, d9, d10⟩ := h
  refine ⟨d1.c (fun _ _ _ _ => rfl) (fun i hi => gt_st_k (by omega)) (fun j p q => st_row_ne (by omega)) (fun _ _ => rfl), d2, fun f p q => ?_, fun f hf => ?_, ⟨d5, d6, ?_, ?_⟩, d9, fun f hf => ?_⟩
  · rw [gt_st_i (by omega)]; exact d3 f p q
  · exact (d4 f hf).c (fun _ _ => rfl) (fun j hj => gt_st_k (by omega)) (fun _ _ => rfl)
  · rw [gt_st_k (by omega)]; exact d7
  · rw [gt_st_k (by omega)]; exact d8
  · rw [gt_st_k (by omega)]; exact d10 f hf
theorem DN.more {A : Ab} {F L c : Nat} {k m : St} (h : DN A F L k m) (hp : PT A F L k m) (hF : F < 4) (hc : c ≤ 99) (h17 : gt k 17 F = nI c) : DN (up2 A 5 F c) (F + 1) L (st k 10 2 (nI (F + 1))) (st (st m 3 (168 + F) (nI c)) 3 2 (nI (F + 1))) := by
  obtain ⟨d1, d2, d3, d4, ⟨d5, d6, d7, d8⟩, d9, d10⟩ := h
  refine ⟨d1.c (fun a j p q => up2_ne (by omega)) (fun i hi => gt_st_i (by omega)) (fun j p q => st_row_ne (by omega)) (fun i hi => by rw [gt_st_i (by omega), gt_st_i (by omega)]), fun f hf => ?_, fun f p q => ?_, fun f hf => ?_, ⟨gt_st_same, ?_, gt_st_same, ?_⟩, by omega, fun f hf => ?_⟩
  · rw [gt_st_i (by omega)]
    by_cases q : f = F
    · rw [q, gt_st_same, up2_same]; exact ⟨rfl, hc⟩
    · rw [gt_st_i (by omega), up2_ne (by omega)]; exact d2 f hf
  · rw [gt_st_k (by omega)]
    by_cases r : f = F
    · rw [r, up2_same]; exact h17
    · rw [up2_ne (by omega)]; exact d3 f p (by omega)
  · have : PT A f L k m := by
      by_cases r : f = F
      · rw [r]; exact hp
      · exact d4 f (by omega)
    exact this.c (fun j hj => up2_ne (by omega)) (fun j hj => gt_st_k (by omega)) (fun j hj => by rw [gt_st_i (by omega), gt_st_i (by omega)])
  · rw [gt_st_i (by omega), gt_st_i (by omega)]; exact d6
  · rw [gt_st_i (by omega)]; exact d8
  · rw [gt_st_k (by omega)]; exact d10 f hf
theorem f112_b {m : St} (h : gt m 0 11 = 0) (v1 v2 z : Int32) : M_readFormat_J112 v1 v2 z m = some m := by
  unfold M_readFormat_J112; rw [takes_b h, b1_some, if_pos h]
theorem f98_b {m : St} (h : gt m 0 11 = 0) (v1 v2 : Int32) : M_readFormat_J98 v1 v2 m = some m := by
  unfold M_readFormat_J98; rw [f112_b h, f112_b h]; split <;> rfl
theorem fL_b {kk : Int32 → Int32 → St → Option St} (hkk : ∀ a b q, kk a b q = M_readFormat_J98 a b q) {fu : Nat} {m : St} (h : gt m 0 11 = 0) (v1 v2 v3 : Int32) : M_readFormat_L42 kk (fu + 1) v1 v2 v3 m = some m := by
  rw [M_readFormat_L42]; unfold M_readFormat_B42
  rw [rd_at 3 li3 (by omega) (by omega), b1_some, if_pos h, hkk, f98_b h]; split <;> rfl
def FmO (T : Nat) (B : Nat → Nat) (F L : Nat) (k m : St) (rk : Option (Int32 × St)) (rm : Option St) : Prop := (∃ A2 k2 m2, rk = some (1, k2) ∧ rm = some m2 ∧ PS T B k2 m2 ∧ gt k2 10 2 = nI F ∧ DN A2 (F + 1) L (st k2 10 2 (nI (F + 1))) m2 ∧ FpK k k2 ∧ FpM m m2) ∨ (∃ k2 m2, rk = some (0, k2) ∧ rm = some m2 ∧ BadO k m k2 m2)
theorem FmO.tr {T : Nat} {B : Nat → Nat} {F L : Nat} {k m k1 m1 : St} {rk : Option (Int32 × St)} {rm : Option St} (h : FmO T B F L k1 m1 rk rm) (f1 : FpK k k1) (f2 : FpM m m1) : FmO T B F L k m rk rm := by
  rcases h with ⟨A2, k2, m2, h1, h2, h3, h4, h5, h6, h7⟩ | ⟨k2, m2, h1, h2, h3⟩
  · exact Or.inl ⟨A2, k2, m2, h1, h2, h3, h4, h5, f1.tr h6, f2.tr h7⟩
  · exact Or.inr ⟨k2, m2, h1, h2, h3.tr f1 f2⟩
theorem fmt_loop {T : Nat} {B : Nat → Nat} {F L c : Nat} (hF : F < 4) (hc : c ≤ 99) {kk : Int32 → Int32 → St → Option St} (hkk : ∀ a b q, kk a b q = M_readFormat_J98 a b q) {kK : St → Option (Int32 × St)} (hkK : ∀ q, kK q = b2 (Rd_takeSemicolon q) fun x13 q14 => bz x13 <| some (x13, q14)) : ∀ (fu l : Nat) (A : Ab) (k m : St), PS T B k m → DN A F L k m → PT A F l k m → gt k 17 F = nI c → l ≤ L → L + 2 ≤ l + fu → FmO T B F L k m (Rd_readFormat_L36 kK fu (nI F) (nI (l + 1)) k) (M_readFormat_L42 kk fu (nI F) (nI c) (nI l) m) := by
  intro fu
  induction fu with
  | zero => intro l A k m h hd hp h17 h1 h2; omega
  | succ fu ih =>
    intro l A k m h hd hp h17 h1 h2
    have hd' := hd
    obtain ⟨d1, d2, d3, d4, ⟨d5, d6, d7, d8⟩, ⟨d9, d9', d9'', d9'''⟩, d10⟩ := hd'
    rw [Rd_readFormat_L36, M_readFormat_L42]; unfold Rd_readFormat_B36 M_readFormat_B42
    rw [rd_at 3 li3 (by omega) (by omega), b1_some, d6, d8, hkK, hkk]
    by_cases q : l = L
    · rw [q] at hp
      rw [if_pos (show nI L < nI (l + 1) from (nI_ltI (by omega) (by omega)).mpr (by omega)), if_pos (show nI L ≤ nI l from (nI_leI (by omega) (by omega)).mpr (by omega))]
      unfold M_readFormat_J98 M_readFormat_J112
      rcases semi_both h with ⟨s1, k1, m1, s2, s3, s4, s5, s6⟩ | ⟨s1, s2, s3⟩
      · have hd1 := hd.f s5 s6
        have h172 : gt k1 17 F = nI c := by rw [gt_e, s5 17 (by omega)]; exact h17
        rw [s2, b2_some, if_pos s1, s3, b1_some, s4.2.1, if_neg (show ¬ (1 : Int32) = 0 by decide), li168, nI_add, wr_n (by omega) (by omega), b1_some, rd_at 2 li2 (by omega) (by omega), b1_some, gt_st_i (by omega), hd1.2.2.2.2.1.1, nI_1, wr_at 2 li2 (by omega) (by omega), b1_some]
        exact Or.inl ⟨_, k1, _, rfl, rfl, s4.row (fun _ _ => rfl) (fun j hj => by rw [st_row_ne (by omega), st_row_ne (by omega)]) rfl, hd1.2.2.2.2.1.2.2.1, hd1.more (hp.f s5 s6) hF hc h172, s5.p, s6.p.tr (FpM.r3 (fun j y => by rw [st_row_ne y, st_row_ne y]))⟩
      · rw [s2, b2_some, if_neg s1, s3, b1_some, bdM_f, if_pos rfl]
        exact Or.inr ⟨_, _, rfl, rfl, h.bad d10⟩
    · rw [if_neg (show ¬ nI L < nI (l + 1) from fun z => by have := (nI_ltI (by omega) (by omega)).mp z; omega), if_neg (show ¬ nI L ≤ nI l from fun z => by have := (nI_leI (by omega) (by omega)).mp z; omega), h.2.1, if_neg (show ¬ (1 : Int32) = 0 by decide)]
      obtain ⟨f2, hf2⟩ : ∃ f2, fu = f2 + 1 := ⟨fu - 1, by omega⟩
      rcases num_c h 1 999 with ⟨n, n1, n2, n3, n4, n5, n6, n7⟩ | (⟨q1, q2, q3⟩ | ⟨n, q1, q2, q3, q4, q5, q6⟩)
      · have hP : PS T B (st k 18 (F * 6 + (l + 1)) (nI (rt A F l + n))) m := h.row (fun j hj => by rw [st_row_ne (by omega)]) (fun _ _ => rfl) rfl
        obtain ⟨k2, m2, c1, c2, c3, c4, c5⟩ := hP.next
        have e1 := rate_e (f := F) n7 n1 n2 hF (show l < 5 by omega) (hp.2 l (by omega)) c2
        have e2 : M_number m 1 999 = some (nI n, m2) := numM_yes (lo := 1) (hi := 999) n4 n5 (by omega) (by omega) (by omega) ⟨n1, n2⟩ (takes_1 h.2.1 c1)
        rw [e1, e2, b2_some, b2_some, if_neg (show ¬ (1 : Int32) = 0 by decide), c3.2.1, if_neg (show ¬ (1 : Int32) = 0 by decide), li148, li5, pk_mul, nI_add, nI_add, wr_n (by omega) (by omega), b1_some, nI_1, nI_1]
        have hd2 : DN (up2 A 6 (5 * F + l) n) F L k2 (st m2 3 (148 + 5 * F + l) (nI n)) := (hd.rate (n := n) (x := nI (rt A F l + n)) (y := nI n) (show l < 5 by omega) hF).row (fun j x y => c4 j (by omega)) (by rw [st_row_same, st_row_same, c5.1 3 (by omega)])
        have hp2 : PT (up2 A 6 (5 * F + l) n) F (l + 1) k2 (st m2 3 (148 + 5 * F + l) (nI n)) := (hp.add n1 n2).c (fun _ _ => rfl) (fun j _ => by rw [gt_e, c4 18 (by omega)]; rfl) (fun j _ => by rw [gt_e, st_row_same, c5.1 3 (by omega), gt_e, st_row_same])
        have h172 : gt k2 17 F = nI c := by rw [gt_e, c4 17 (by omega), st_row_ne (by omega)]; exact h17
        refine FmO.tr (ih (l + 1) _ k2 _ (c3.row (fun _ _ => rfl) (fun j hj => by rw [st_row_ne (by omega)]) rfl) hd2 hp2 h172 (by omega) (by omega)) ?_ ?_
        · exact FpK.tr (fun j x y => st_row_ne (by omega)) c4.p
        · exact c5.p.tr (FpM.r3 (fun j y => st_row_ne y))
      · rw [rate_no1 q3, numM_no1 h.2.1 q1, b2_some, b2_some, if_pos rfl, if_pos bdM_f, hf2, fL_b hkk bdM_f]
        exact Or.inr ⟨_, _, rfl, rfl, h.bad d10⟩
      · have e2 : M_number m 1 999 = some (nI n, bdM m) := numM_no2 (lo := 1) (hi := 999) h.2.1 q3 q4 q1 (by omega) (by omega) q2
        rw [rate_no2 q6 q1 q2, e2, b2_some, b2_some, if_pos rfl, if_pos bdM_f, hf2, fL_b hkk bdM_f]
        exact Or.inr ⟨_, _, rfl, rfl, h.bad d10⟩
theorem f18_b {m : St} (h : gt m 0 11 = 0) (v1 : Int32) : (b2 (M_number m 1 99) fun x4 q5 => b1 (M_isWord q5 18927795) fun x6 => b1 (M_takes q5 x6) fun q7 => M_readFormat_L42 (fun y15 y16 q17 => M_readFormat_J98 y15 y16 q17) FU v1 x4 0 q7) = some m := by
  obtain ⟨x, hx⟩ := number_b h 1 99
  obtain ⟨f2, hf2⟩ : ∃ f2, FU = f2 + 1 := ⟨FU - 1, by rw [FU_e]⟩
  rw [hx, b2_some, isWord_b h, b1_some, takes_b h, b1_some, hf2, fL_b (fun _ _ _ => rfl) h]
theorem fmt_both {T : Nat} {B : Nat → Nat} {A : Ab} {F L : Nat} {k m : St} (h : PS T B k m) (hd : DN A F L k m) (hF : F < 4) : ∃ k1, Rd_nextToken k = some k1 ∧ gt k1 10 2 = nI F ∧ FmO T B F L k m (Rd_readFormat k1 (nI F)) (M_readFormat m) := by
  obtain ⟨k1, m1, c1, c2, c3, c4, c5⟩ := h.next
  have hd1 := hd.f c4 c5
  refine ⟨k1, c2, hd1.2.2.2.2.1.2.2.1, FmO.tr ?_ c4.p c5.p⟩
  unfold M_readFormat Rd_readFormat
  rw [rd_at 2 li2 (by omega) (by omega), b1_some, hd.2.2.2.2.1.1, if_neg (show ¬ (4 : Int32) ≤ nI F from fun z => by have := (nI_leI (a := 4) (by omega) (by omega)).mp z; omega)]
  unfold M_readFormat_J18
  rw [takes_1 h.2.1 c1, b1_some]
  rcases number_both c3 (lo := 1) (hi := 99) (by omega) (by omega) with ⟨c, k2, m2, n1, n2, e1, e2, e3, e4, e5⟩ | ⟨e1, e2⟩
  · have e1 : Rd_takeNumber k1 1 99 = some (nI c, k2) := e1
    have e2 : M_number m1 1 99 = some (nI c, m2) := e2
    have hd2 := hd1.f e4 e5
    rw [e1, b2_some, if_neg (nm1 (by omega)), e2, b2_some]
    refine FmO.tr ?_ e4.p e5.p
    rcases word_take e3 (w := 7) (by omega) with ⟨k3, m3, a1, a2, a3, a4, a5, a6⟩ | ⟨a1, a2, a3⟩
    · have a2 : M_isWord m2 18927795 = some 1 := a2
      have hd3 := hd2.f a5 a6
      rw [a1, b2_some, if_neg (show ¬ (1 : Int32) = 0 by decide), a2, b1_some, a3, b1_some, wr_n (by omega) (by omega), b1_some]
      have fk : FpK k2 (st k3 17 F (nI c)) := a5.p.tr (fun j x y => st_row_ne (by omega))
      refine FmO.tr ?_ fk a6.p
      refine fmt_loop hF n2 (fun _ _ _ => rfl) (fun _ => rfl) FU 0 A _ m3 (a4.row (fun j hj => st_row_ne (by omega)) (fun _ _ => rfl) rfl) hd3.k17 ⟨fun j hj => by omega, fun j hj => ?_⟩ gt_st_same (by omega) ?_
      · have : j = 0 := by omega
        subst this
        rw [gt_st_k (by omega)]; exact hd3.2.2.2.2.2.2 F hF
      · have := hd3.2.2.2.2.2.1; rw [FU_e]; omega
    · have a2 : M_isWord m2 18927795 = some 0 := a2
      obtain ⟨f2, hf2⟩ : ∃ f2, FU = f2 + 1 := ⟨FU - 1, by rw [FU_e]⟩
      rw [a1, b2_some, if_pos rfl, a2, b1_some, a3, b1_some, hf2, fL_b (fun _ _ _ => rfl) bdM_f]
      exact Or.inr ⟨_, _, rfl, rfl, e3.bad hd2.2.2.2.2.2.2⟩
  · have e1 : Rd_takeNumber k1 1 99 = some (-1, k1) := e1
    have e2 : M_number m1 1 99 = some (gt m1 0 9, bdM m1) := e2
    obtain ⟨f2, hf2⟩ : ∃ f2, FU = f2 + 1 := ⟨FU - 1, by rw [FU_e]⟩
    rw [e1, b2_some, if_pos rfl, e2, b2_some, isWord_b bdM_f, b1_some, takes_b bdM_f, b1_some, hf2, fL_b (fun _ _ _ => rfl) bdM_f]
    exact Or.inr ⟨_, _, rfl, rfl, c3.bad hd1.2.2.2.2.2.2⟩
theorem forms_both {T : Nat} {B : Nat → Nat} (kk : St → Option St) : ∀ (fu : Nat) (A : Ab) (F L : Nat) (k m : St), PS T B k m → DN A (F + 1) L k m → 6 ≤ F + fu → (∃ A2 F2 L2 k2 m2, Rd_readFormats_L2 fu (nI F) k = some (1, k2) ∧ M_reads_L89 kk fu m = kk m2 ∧ PS T B k2 m2 ∧ DN A2 F2 L2 k2 m2 ∧ FpK k k2 ∧ FpM m m2) ∨ (∃ k2 m2, Rd_readFormats_L2 fu (nI F) k = some (0, k2) ∧ M_reads_L89 kk fu m = kk m2 ∧ BadO k m k2 m2) := by
  intro fu
  induction fu with
  | zero => intro A F L k m h hd hf; have := hd.2.2.2.2.2.1; omega
  | succ fu ih =>
    intro A F L k m h hd hf
    have hF := hd.2.2.2.2.2.1
    rw [Rd_readFormats_L2, M_reads_L89]; unfold Rd_readFormats_B2 M_reads_B89
    rw [if_neg (show ¬ (4 : Int32) ≤ nI F from fun z => by have := (nI_leI (a := 4) (by omega) (by omega)).mp z; omega)]
    rcases isWord_both h (w := 6) (by omega) with ⟨a, b, _⟩ | ⟨a, b⟩
    · have b : M_isWord m 217658420 = some 1 := b
      obtain ⟨f2, hf2⟩ : ∃ f2, fu = f2 + 1 := ⟨fu - 1, by omega⟩
      rw [a, b, b1_some, b1_some, if_neg (show ¬ (1 : Int32) = 0 by decide), if_neg (show ¬ (1 : Int32) = 0 by decide), hd.2.2.2.2.1.2.2.1]
      by_cases c : F = 3
      · have e : M_readFormat m = some (bdM m) := by
          unfold M_readFormat
          rw [rd_at 2 li2 (by omega) (by omega), b1_some, hd.2.2.2.2.1.1, c, if_pos (show (4 : Int32) ≤ nI (3 + 1) by decide)]
          unfold M_readFormat_J18
          rw [takes_0 h.2.1, b1_some]; exact f18_b bdM_f _
        rw [e, b1_some, hf2, forms_b kk bdM_f, c, if_pos (show nI (3 + 1) = (4 : Int32) by decide)]
        exact Or.inr ⟨_, _, rfl, rfl, h.bad hd.2.2.2.2.2.2⟩
      · rw [if_neg (show ¬ nI (F + 1) = (4 : Int32) from fun z => c (by have := nI_inj (b := 4) (by omega) (by omega) z; omega))]
        obtain ⟨k1, e1, e2, e3⟩ := fmt_both h hd (by omega)
        rw [e1, b1_some, e2]
        rcases e3 with ⟨A2, k2, m2, h1, h2, h3, h4, h5, h6, h7⟩ | ⟨k2, m2, h1, h2, h3⟩
        · rw [h1, h2, b2_some, b1_some, if_neg (show ¬ (1 : Int32) = 0 by decide), lt_e, h4, nI_1, nI_1]
          have fk : FpK k (st k2 10 2 (nI (F + 1 + 1))) := h6.tr (fun j x y => st_row_ne (by omega))
          rcases ih A2 (F + 1) L _ m2 (h3.row (k2 := st k2 10 2 (nI (F + 1 + 1))) (fun j hj => st_row_ne (by omega)) (fun _ _ => rfl) rfl) h5 (by omega) with ⟨A3, F3, L3, k3, m3, r1, r2, r3, r4, r5, r6⟩ | ⟨k3, m3, r1, r2, r3⟩
          · exact Or.inl ⟨A3, F3, L3, k3, m3, r1, r2, r3, r4, fk.tr r5, h7.tr r6⟩
          · exact Or.inr ⟨k3, m3, r1, r2, r3.tr fk h7⟩
        · rw [h1, h2, b2_some, b1_some, if_pos rfl, hf2, forms_b kk h3.1.1]
          exact Or.inr ⟨_, _, rfl, rfl, h3⟩
    · have b : M_isWord m 217658420 = some 0 := b
      rw [a, b, b1_some, b1_some, if_pos rfl, if_pos rfl]
      exact Or.inl ⟨A, F + 1, L, k, m, rfl, rfl, h, hd, FpK.rf, FpM.rf⟩
