/-! ===== PHASE B: words, numbers, semicolons ===== -/
def kcs : List (List Nat) := [[110, 111, 100, 101, 115], [108, 105, 110, 107], [99, 97, 112, 97, 99, 105, 116, 121], [100, 101, 108, 97, 121], [99, 112, 117], [110, 97, 116, 105, 118, 101], [102, 111, 114, 109, 97, 116], [114, 97, 116, 101, 115]]
def kc (w i : Nat) : Nat := (kcs.getD w []).getD i 0
def kl (w : Nat) : Nat := sLn.getD w 0
def kw (w : Nat) : Int64 := [15175859, 402891, 104690984601, 4370489, 3605, 471475909, 217658420, 18927795].getD w 0
theorem kl_le : ∀ w, w < 8 → kl w ≤ 8 ∧ 1 ≤ kl w := by decide +kernel
theorem kc_ok : ∀ w, w < 8 → ∀ i, i < kl w → (sBy.getD w []).getD i 0 = nI (kc w i) ∧ 97 ≤ kc w i ∧ kc w i ≤ 122 := by decide +kernel
theorem kw_ok : ∀ w, w < 8 → kw w = lN (enc (fun i => kc w i - 96) (kl w)) := by decide +kernel
theorem enc_inj : ∀ (n p : Nat) (c d : Nat → Nat), (∀ i, i < n → 1 ≤ c i ∧ c i < 32) → (∀ i, i < p → 1 ≤ d i ∧ d i < 32) → enc c n = enc d p → n = p ∧ ∀ i, i < n → c i = d i := by
  intro n
  induction n with
  | zero =>
    intro p c d _ hd h
    cases p with
    | zero => exact ⟨rfl, fun i hi => by omega⟩
    | succ p => rw [enc, enc] at h; have := hd p (by omega); omega
  | succ n ih =>
    intro p c d hc hd h
    cases p with
    | zero => rw [enc, enc] at h; have := hc n (by omega); omega
    | succ p =>
      rw [enc, enc] at h
      have h1 := hc n (by omega)
      have h2 := hd p (by omega)
      obtain ⟨e1, e2⟩ := ih p c d (fun i hi => hc i (by omega)) (fun i hi => hd i (by omega)) (by omega)
      refine ⟨by omega, fun i hi => ?_⟩
      by_cases q : i = n
      · subst e1; rw [q]; omega
      · exact e2 i (by omega)
theorem enc_congr {c d : Nat → Nat} : ∀ n, (∀ i, i < n → c i = d i) → enc c n = enc d n := by
  intro n
  induction n with
  | zero => intro _; rfl
  | succ n ih => intro h; rw [enc, enc, ih (fun i hi => h i (by omega)), h n (by omega)]
theorem lN_inj {a b : Nat} (ha : a < 2 ^ 64) (hb : b < 2 ^ 64) (h : lN a = lN b) : a = b := by
  have h1 : (lN a).toBitVec.toNat = (lN b).toBitVec.toNat := by rw [h]
  have h2 : (BitVec.ofNat 64 a).toNat = (BitVec.ofNat 64 b).toNat := h1
  rw [BitVec.toNat_ofNat, BitVec.toNat_ofNat, Nat.mod_eq_of_lt ha, Nat.mod_eq_of_lt hb] at h2
  exact h2
/-- the parser's state while all is fine -/
def PS (T : Nat) (B : Nat → Nat) (k m : St) : Prop := TB T B k m ∧ gt m 0 11 = 1 ∧ ∃ kd s e v, PR T B k m kd s e v
/-- an error: where -/
def Bd (k m : St) : Prop := gt m 0 11 = 0 ∧ gt m 0 2 = gt k 155 5
def bdM (m : St) : St := st (st m 0 11 0) 0 2 (gt m 0 7)
theorem wrd28 {T : Nat} {B : Nat → Nat} {k m : St} (h : TB T B k m) {s w : Nat} (hs : gt k 155 5 = nI s) (hw : w < 8) (hl : s + kl w ≤ T) : ∀ (fu i : Nat), i ≤ kl w → kl w < i + fu → ((∀ j, i ≤ j → j < kl w → B (s + j) = kc w j) ∧ Rd_isWord_L28 w k fu (nI i) = some 1) ∨ ((∃ j, i ≤ j ∧ j < kl w ∧ B (s + j) ≠ kc w j) ∧ Rd_isWord_L28 w k fu (nI i) = some 0) := by
  have h14 := h.1
  have hk8 := (kl_le w hw).1
  intro fu
  induction fu with
  | zero => intro i h1 h2; omega
  | succ fu ih =>
    intro i h1 h2
    rw [Rd_isWord_L28]; unfold Rd_isWord_B28 sL
    rw [show sLn.getD w 0 = kl w from rfl]
    by_cases c : i < kl w
    · obtain ⟨q1, q2, q3⟩ := kc_ok w hw i c
      have hB := (h.2.2.2 (s + i) (by omega)).1
      rw [if_neg (fun z => by have := (nI_leI (by omega) (by omega)).mp z; omega), hs, nI_add, byteAt_e h (by omega), b1_some]
      have hC : sC w (nI i) = some (nI (kc w i)) := by
        unfold sC
        rw [show sLn.getD w 0 = kl w from rfl, if_neg (nI_in c (by omega)), nI_clamp (by omega), q1]
      rw [hC, b1_some]
      by_cases d : B (s + i) = kc w i
      · rw [d, if_pos rfl, nI_1]
        rcases ih (i + 1) (by omega) (by omega) with ⟨a, b⟩ | ⟨⟨j, a1, a2, a3⟩, b⟩
        · refine Or.inl ⟨fun j x y => ?_, b⟩
          by_cases z : j = i
          · rw [z]; exact d
          · exact a j (by omega) y
        · exact Or.inr ⟨⟨j, by omega, a2, a3⟩, b⟩
      · rw [if_neg (fun z => d (nI_inj (by omega) (by omega) z))]
        exact Or.inr ⟨⟨i, Nat.le_refl _, c, d⟩, rfl⟩
    · rw [if_pos ((nI_leI (by omega) (by omega)).mpr (by omega))]
      exact Or.inl ⟨fun j x y => by omega, rfl⟩
theorem isWord_both {T : Nat} {B : Nat → Nat} {k m : St} (h : PS T B k m) {w : Nat} (hw : w < 8) : (Rd_isWord w k = some 1 ∧ M_isWord m (kw w) = some 1 ∧ gt m 0 8 = nI 1) ∨ (Rd_isWord w k = some 0 ∧ M_isWord m (kw w) = some 0) := by
  obtain ⟨hT, hf, kd, s, e, v, p1, p2, p3, ⟨p4, p5, p6⟩, ⟨p7, p8, p9⟩, p10, p11, p12⟩ := h
  have h14 := hT.1
  obtain ⟨hk8, hk1⟩ := kl_le w hw
  unfold Rd_isWord M_isWord
  rw [hf, if_neg (show ¬ (1 : Int32) = 0 by decide), p6, p7]
  by_cases c : kd = 1
  · obtain ⟨q1, q2⟩ := p12 c
    rw [c, if_pos (show nI 1 = 1 from rfl), if_pos (show nI 1 = 1 from rfl), p8, p9, sub_le p1, q2, kw_ok w hw]
    unfold sL
    rw [show sLn.getD w 0 = kl w from rfl]
    have hcd : ∀ i, i < kl w → 1 ≤ kc w i - 96 ∧ kc w i - 96 < 32 := fun i hi => by have := kc_ok w hw i hi; omega
    have hcB : ∀ i, i < min (e - s) 12 → 1 ≤ eB B s i ∧ eB B s i < 32 := fun i hi => by
      have h1 := q1 (s + i) (by omega) (by omega)
      have h2 := h1.1
      have h3 := h1.2
      unfold eB
      omega
    have l1 : enc (eB B s) (min (e - s) 12) < 2 ^ 64 := by
      have := enc_lt (c := eB B s) (min (e - s) 12) (fun i hi => (hcB i hi).2)
      have h2 : 32 ^ (min (e - s) 12) ≤ 32 ^ 12 := Nat.pow_le_pow_right (by omega) (by omega)
      have h3 : (32 : Nat) ^ 12 < 2 ^ 64 := by decide
      omega
    have l2 : enc (fun i => kc w i - 96) (kl w) < 2 ^ 64 := by
      have := enc_lt (c := fun i => kc w i - 96) (kl w) (fun i hi => (hcd i hi).2)
      have h2 : 32 ^ (kl w) ≤ 32 ^ 12 := Nat.pow_le_pow_right (by omega) (by omega)
      have h3 : (32 : Nat) ^ 12 < 2 ^ 64 := by decide
      omega
    have yes : (e - s = kl w ∧ ∀ j, j < kl w → B (s + j) = kc w j) → lg_cmp (lN (enc (eB B s) (min (e - s) 12))) (lN (enc (fun i => kc w i - 96) (kl w))) = 0 := fun z => by
      rw [lg_cmp_eq, show min (e - s) 12 = kl w by omega, enc_congr (kl w) (d := fun i => kc w i - 96) (fun i hi => by unfold eB; rw [z.2 i hi])]
    have no : ¬ (e - s = kl w ∧ ∀ j, j < kl w → B (s + j) = kc w j) → ¬ lg_cmp (lN (enc (eB B s) (min (e - s) 12))) (lN (enc (fun i => kc w i - 96) (kl w))) = 0 := fun z y => by
      rw [lg_cmp_eq] at y
      obtain ⟨e1, e2⟩ := enc_inj _ _ _ _ hcB hcd (lN_inj l1 l2 y)
      refine z ⟨by omega, fun j hj => ?_⟩
      have h1 := e2 j (by omega)
      have h2 := (q1 (s + j) (by omega) (by omega)).1
      have h3 := (kc_ok w hw j hj).2.1
      have h1 : B (s + j) - 96 = kc w j - 96 := h1
      omega
    by_cases c2 : e - s = kl w
    · rw [c2, if_pos rfl]
      rw [c2] at yes no
      rcases wrd28 hT p9 hw (by omega) FU 0 (by omega) (by rw [FU_e]; omega) with ⟨a, b⟩ | ⟨⟨j, a1, a2, a3⟩, b⟩
      · have b : Rd_isWord_L28 w k FU 0 = some 1 := b
        rw [b, if_pos (yes ⟨rfl, fun j hj => a j (by omega) hj⟩)]
        exact Or.inl ⟨rfl, rfl, rfl⟩
      · have b : Rd_isWord_L28 w k FU 0 = some 0 := b
        rw [b, if_neg (no (fun z => a3 (z.2 j a2)))]
        exact Or.inr ⟨rfl, rfl⟩
    · rw [if_neg (fun z => c2 (nI_inj (by omega) (by omega) z)), if_neg (no (fun z => c2 z.1))]
      exact Or.inr ⟨rfl, rfl⟩
  · have hne : ¬ nI kd = 1 := fun z => c (nI_inj (b := 1) (by omega) (by omega) z)
    rw [if_neg hne, if_neg hne]
    exact Or.inr ⟨rfl, rfl⟩
theorem PS.next {T : Nat} {B : Nat → Nat} {k m : St} (h : PS T B k m) : ∃ k2 m2, M_next m = some m2 ∧ Rd_nextToken k = some k2 ∧ PS T B k2 m2 ∧ FnK k k2 ∧ FnM m m2 := by
  obtain ⟨hT, hf, kd, s, e, v, p1, p2, p3, ⟨p4, p5, p6⟩, ⟨p7, p8, p9⟩, _⟩ := h
  obtain ⟨k2, m2, kd2, s2, e2, v2, a1, a2, a3, a4, a5⟩ := next_both hT p4 p8 p2
  exact ⟨k2, m2, a1, a2, ⟨hT.f a4 a5, by rw [gt_e, a5.2 11 (by omega)]; exact hf, kd2, s2, e2, v2, a3⟩, a4, a5⟩
theorem takes_1 {m m2 : St} (h : gt m 0 11 = 1) (hn : M_next m = some m2) : M_takes m 1 = some m2 := by
  unfold M_takes M_takes_J24
  rw [h, if_neg (by decide), if_neg (by decide), if_neg (by decide), hn, b1_some]
theorem takes_0 {m : St} (h : gt m 0 11 = 1) : M_takes m 0 = some (bdM m) := by
  unfold M_takes M_takes_J24
  rw [h, if_neg (by decide), if_pos rfl, lt_e, lt_e, gt_st_i (show 7 ≠ 11 by omega), gt_st_i (show 11 ≠ 2 by omega), gt_st_same, if_pos rfl]
  rfl
theorem takes_b {m : St} (h : gt m 0 11 = 0) (z : Int32) : M_takes m z = some m := by
  unfold M_takes M_takes_J24
  rw [h, if_pos rfl, if_pos rfl]
/-- what a parse may change -/
def FpK (k k2 : St) : Prop := ∀ j, (j < 10 ∨ 18 < j) → j ≠ 155 → k2.1 j = k.1 j
def FpM (m m2 : St) : Prop := (∀ j, j ≠ 0 → j ≠ 3 → m2.1 j = m.1 j) ∧ (∀ i, i = 1 ∨ i = 15 → m2.1 0 i = m.1 0 i) ∧ (m2.1 0 11 = 1 → m.1 0 11 = 1 ∧ m2.1 0 2 = m.1 0 2)
theorem FnK.p {k k2 : St} (h : FnK k k2) : FpK k k2 := fun j _ x => h j x
theorem FnM.p {k k2 : St} (h : FnM k k2) : FpM k k2 := ⟨fun j x _ => h.1 j x, fun i hi => h.2 i (by omega), fun z => ⟨by rw [h.2 11 (by omega)] at z; exact z, h.2 2 (by omega)⟩⟩
theorem FpK.rf {k : St} : FpK k k := fun _ _ _ => rfl
theorem FpM.rf {k : St} : FpM k k := ⟨fun _ _ _ => rfl, fun _ _ => rfl, fun z => ⟨z, rfl⟩⟩
theorem FpK.tr {a b c : St} (h : FpK a b) (h2 : FpK b c) : FpK a c := fun j x y => (h2 j x y).trans (h j x y)
theorem FpM.tr {a b c : St} (h : FpM a b) (h2 : FpM b c) : FpM a c := ⟨fun j x y => (h2.1 j x y).trans (h.1 j x y), fun i x => (h2.2.1 i x).trans (h.2.1 i x), fun z => ⟨(h.2.2 (h2.2.2 z).1).1, (h2.2.2 z).2.trans (h.2.2 (h2.2.2 z).1).2⟩⟩
theorem FpM.r3 {m m2 : St} (h : ∀ j, j ≠ 3 → m2.1 j = m.1 j) : FpM m m2 := ⟨fun j _ y => h j y, fun i _ => by rw [h 0 (by omega)], fun z => ⟨by rw [h 0 (by omega)] at z; exact z, by rw [h 0 (by omega)]⟩⟩
theorem FpM.bd {m : St} : FpM m (bdM m) := by
  unfold bdM
  refine ⟨fun j x _ => by rw [st_row_ne x, st_row_ne x], fun i hi => ?_, fun z => ?_⟩
  rotate_left
  · rw [st_row_same, upd_e, if_neg (by omega), st_row_same, upd_e, if_pos rfl] at z; exact absurd z (by decide)
  rw [st_row_same, upd_e, if_neg (by omega), st_row_same, upd_e, if_neg (by omega)]
theorem bdM_row {m : St} {j : Nat} (h : j ≠ 0) : (bdM m).1 j = m.1 j := by unfold bdM; rw [st_row_ne h, st_row_ne h]
theorem bdM_f {m : St} : gt (bdM m) 0 11 = 0 := by unfold bdM; rw [gt_st_i (by omega), gt_st_same]
theorem bdM_s {m : St} {i : Nat} (h : i ≠ 2) (h2 : i ≠ 11) : gt (bdM m) 0 i = gt m 0 i := by unfold bdM; rw [gt_st_i h, gt_st_i h2]
theorem PS.bd {T : Nat} {B : Nat → Nat} {k m : St} (h : PS T B k m) : Bd k (bdM m) := by
  obtain ⟨hT, hf, kd, s, e, v, p1, p2, p3, ⟨p4, p5, p6⟩, ⟨p7, p8, p9⟩, _⟩ := h
  refine ⟨bdM_f, ?_⟩
  unfold bdM; rw [gt_st_same, p5, p9]
theorem word_take {T : Nat} {B : Nat → Nat} {k m : St} (h : PS T B k m) {w : Nat} (hw : w < 8) : (∃ k2 m2, Rd_takeWord w k = some (1, k2) ∧ M_isWord m (kw w) = some 1 ∧ M_takes m 1 = some m2 ∧ PS T B k2 m2 ∧ FnK k k2 ∧ FnM m m2) ∨ (Rd_takeWord w k = some (0, k) ∧ M_isWord m (kw w) = some 0 ∧ M_takes m 0 = some (bdM m)) := by
  unfold Rd_takeWord
  rcases isWord_both h hw with ⟨a, b, _⟩ | ⟨a, b⟩
  · obtain ⟨k2, m2, c1, c2, c3, c4, c5⟩ := h.next
    rw [a, b1_some, if_neg (by decide), c2, b1_some]
    exact Or.inl ⟨k2, m2, rfl, b, takes_1 h.2.1 c1, c3, c4, c5⟩
  · rw [a, b1_some, if_pos rfl]
    exact Or.inr ⟨rfl, b, takes_0 h.2.1⟩
theorem semi_both {T : Nat} {B : Nat → Nat} {k m : St} (h : PS T B k m) : (gt m 0 8 = 3 ∧ ∃ k2 m2, Rd_takeSemicolon k = some (1, k2) ∧ M_takes m 1 = some m2 ∧ PS T B k2 m2 ∧ FnK k k2 ∧ FnM m m2) ∨ (gt m 0 8 ≠ 3 ∧ Rd_takeSemicolon k = some (0, k) ∧ M_takes m 0 = some (bdM m)) := by
  obtain ⟨k2, m2, c1, c2, c3, c4, c5⟩ := h.next
  have ht0 := takes_0 h.2.1
  have ht1 := takes_1 h.2.1 c1
  obtain ⟨hT, hf, kd, s, e, v, p1, p2, p3, ⟨p4, p5, p6⟩, ⟨p7, p8, p9⟩, _⟩ := h
  unfold Rd_takeSemicolon
  rw [p6, p7]
  by_cases c : kd = 3
  · rw [c, if_pos (show nI 3 = 3 from rfl), c2, b1_some]
    exact Or.inl ⟨rfl, k2, m2, rfl, ht1, c3, c4, c5⟩
  · have hne : ¬ nI kd = 3 := fun z => c (nI_inj (b := 3) (by omega) (by omega) z)
    rw [if_neg hne]
    exact Or.inr ⟨hne, rfl, ht0⟩
theorem M_inN (q : St) {v lo hi : Nat} (h1 : v < 2 ^ 31) (h2 : lo < 2 ^ 31) (h3 : hi < 2 ^ 31) : M_in q (nI v).toInt64 (nI lo).toInt64 (nI hi).toInt64 = some (if lo ≤ v ∧ v ≤ hi then 1 else 0) := by
  rw [M_in3, nI_toInt h1, nI_toInt h2, nI_toInt h3]
  by_cases c : lo ≤ v ∧ v ≤ hi
  · rw [if_pos c, if_pos (by omega)]
  · rw [if_neg c, if_neg (by omega)]
/-- the token in hand is a number of the range, or not -/
theorem num_c {T : Nat} {B : Nat → Nat} {k m : St} (h : PS T B k m) (lo hi : Nat) : (∃ n, lo ≤ n ∧ n ≤ hi ∧ n ≤ 9999 ∧ gt m 0 8 = 2 ∧ gt m 0 9 = nI n ∧ gt k 155 2 = 2 ∧ gt k 155 3 = nI n) ∨ ((gt m 0 8 ≠ 2 ∧ gt k 155 2 ≠ 2 ∧ gt k 155 3 = -1) ∨ ∃ n, n ≤ 9999 ∧ ¬ (lo ≤ n ∧ n ≤ hi) ∧ gt m 0 8 = 2 ∧ gt m 0 9 = nI n ∧ gt k 155 2 = 2 ∧ gt k 155 3 = nI n) := by
  obtain ⟨hT, hf, kd, s, e, v, p1, p2, p3, ⟨p4, p5, p6⟩, ⟨p7, p8, p9⟩, p10, p11, _⟩ := h
  by_cases c : kd = 2
  · obtain ⟨q1, q2, q3⟩ := p10 c
    rw [c] at p6 p7
    by_cases d : lo ≤ v ∧ v ≤ hi
    · exact Or.inl ⟨v, d.1, d.2, q3, p6, q1, p7, q2⟩
    · exact Or.inr (Or.inr ⟨v, q3, d, p6, q1, p7, q2⟩)
  · have hne : ¬ nI kd = 2 := fun z => c (nI_inj (b := 2) (by omega) (by omega) z)
    exact Or.inr (Or.inl ⟨by rw [p6]; exact hne, by rw [p7]; exact hne, p11 c⟩)
theorem number_both {T : Nat} {B : Nat → Nat} {k m : St} (h : PS T B k m) {lo hi : Nat} (hlo : lo ≤ 9999) (hhi : hi ≤ 9999) : (∃ n k2 m2, lo ≤ n ∧ n ≤ hi ∧ Rd_takeNumber k (nI lo) (nI hi) = some (nI n, k2) ∧ M_number m (nI lo) (nI hi) = some (nI n, m2) ∧ PS T B k2 m2 ∧ FnK k k2 ∧ FnM m m2) ∨ (Rd_takeNumber k (nI lo) (nI hi) = some (-1, k) ∧ M_number m (nI lo) (nI hi) = some (gt m 0 9, bdM m)) := by
  obtain ⟨k2, m2, c1, c2, c3, c4, c5⟩ := h.next
  have ht0 := takes_0 h.2.1
  have ht1 := takes_1 h.2.1 c1
  unfold Rd_takeNumber M_number M_number_J30 M_number_J31
  rcases num_c h lo hi with ⟨n, n1, n2, n3, n4, n5, n6, n7⟩ | (⟨n1, n2, n3⟩ | ⟨n, n1, n2, n3, n4, n5, n6⟩)
  · rw [n4, n5, n6, n7, if_pos rfl, if_neg (fun z => by have := (nI_ltI (by omega) (by omega)).mp z; omega), if_pos ((nI_leI (by omega) (by omega)).mpr n2), lt_e, lt_e, if_pos rfl, M_inN m (by omega) (by omega) (by omega), if_pos ⟨n1, n2⟩, b1_some, if_neg (by decide), c2, b1_some, ht1, b1_some]
    exact Or.inl ⟨n, k2, m2, n1, n2, rfl, rfl, c3, c4, c5⟩
  · right
    rw [if_neg n2, lt_e, if_neg n1, ht0, b1_some]
    exact ⟨rfl, rfl⟩
  · right
    rw [n3, n4, n5, n6, if_pos rfl, lt_e, lt_e, if_pos rfl, M_inN m (by omega) (by omega) (by omega), if_neg n2, b1_some, if_pos rfl, ht0, b1_some]
    refine ⟨?_, rfl⟩
    by_cases d : n < lo
    · rw [if_pos ((nI_ltI (by omega) (by omega)).mpr d)]
    · rw [if_neg (fun z => d ((nI_ltI (by omega) (by omega)).mp z)), if_neg (fun z => by have := (nI_leI (by omega) (by omega)).mp z; omega)]
theorem M_in_any (q : St) (a b c : Int32) : ∃ z, M_in q a.toInt64 b.toInt64 c.toInt64 = some z := ⟨_, M_in3 q a b c⟩
theorem number_b {m : St} (h : gt m 0 11 = 0) (lo hi : Int32) : ∃ x, M_number m lo hi = some (x, m) := by
  unfold M_number M_number_J30 M_number_J31
  obtain ⟨z, hz⟩ := M_in_any m (gt m 0 9) lo hi
  rw [lt_e, hz, b1_some, takes_b h, takes_b h, b1_some]
  by_cases c : gt m 0 8 = 2
  · rw [if_pos c]
    split <;> exact ⟨_, rfl⟩
  · rw [if_neg c]; exact ⟨_, rfl⟩
theorem isWord_b {m : St} (h : gt m 0 11 = 0) (w : Int64) : M_isWord m w = some 0 := by
  unfold M_isWord; rw [h, if_pos rfl]
theorem behind_b {m : St} (h : gt m 0 11 = 0) (w : Int64) (lo hi : Int32) : ∃ x, M_numberBehind m w lo hi = some (x, m) := by
  unfold M_numberBehind
  obtain ⟨x, hx⟩ := number_b h lo hi
  rw [isWord_b h, b1_some, takes_b h, b1_some, hx, b2_some]
  exact ⟨x, rfl⟩
/-- a word, and a number behind it -/
theorem behind_both {T : Nat} {B : Nat → Nat} {k m : St} (h : PS T B k m) {w lo hi : Nat} (hw : w < 8) (hlo : lo ≤ 9999) (hhi : hi ≤ 9999) : (∃ n k1 k2 m2, lo ≤ n ∧ n ≤ hi ∧ Rd_takeWord w k = some (1, k1) ∧ Rd_takeNumber k1 (nI lo) (nI hi) = some (nI n, k2) ∧ M_numberBehind m (kw w) (nI lo) (nI hi) = some (nI n, m2) ∧ PS T B k2 m2 ∧ FnK k k2 ∧ FnM m m2) ∨ (∃ x m2, Rd_takeWord w k = some (0, k) ∧ M_numberBehind m (kw w) (nI lo) (nI hi) = some (x, m2) ∧ Bd k m2 ∧ FpM m m2 ∧ m2.1 3 = m.1 3) ∨ (∃ x k1 m2, Rd_takeWord w k = some (1, k1) ∧ Rd_takeNumber k1 (nI lo) (nI hi) = some (-1, k1) ∧ M_numberBehind m (kw w) (nI lo) (nI hi) = some (x, m2) ∧ Bd k1 m2 ∧ FnK k k1 ∧ FpM m m2 ∧ m2.1 3 = m.1 3) := by
  unfold M_numberBehind
  rcases word_take h hw with ⟨k1, m1, a1, a2, a3, a4, a5, a6⟩ | ⟨a1, a2, a3⟩
  · rw [a1, a2, b1_some, a3, b1_some]
    rcases number_both a4 hlo hhi with ⟨n, k2, m2, b1', b2', b3', b4', b5', b6', b7'⟩ | ⟨b1', b2'⟩
    · rw [b4', b2_some]
      exact Or.inl ⟨n, k1, k2, m2, b1', b2', rfl, b3', rfl, b5', a5.tr b6', a6.tr b7'⟩
    · rw [b2', b2_some]
      exact Or.inr (Or.inr ⟨_, k1, _, rfl, b1', rfl, a4.bd, a5, a6.p.tr FpM.bd, by rw [bdM_row (by omega), a6.1 3 (by omega)]⟩)
  · rw [a1, a2, b1_some, a3, b1_some]
    obtain ⟨x, hx⟩ := number_b (m := bdM m) bdM_f (nI lo) (nI hi)
    rw [hx, b2_some]
    exact Or.inr (Or.inl ⟨x, _, rfl, rfl, h.bd, FpM.bd, bdM_row (by omega)⟩)
