/-! ===== PHASE B: tokens ===== -/
def sb (b : Nat) : Int32 := (nI b).toInt8.toInt32
def isL (b : Nat) : Prop := 97 ≤ b ∧ b ≤ 122
def isD (b : Nat) : Prop := 48 ≤ b ∧ b ≤ 57
theorem sb_c : ∀ b, b < 256 → (sb b = 32 ↔ b = 32) ∧ (sb b = 10 ↔ b = 10) ∧ (sb b = 59 ↔ b = 59) := by decide +kernel
theorem sb_l : ∀ b, b < 256 → ((sb b < 97 ∨ 122 < sb b) ↔ ¬ (97 ≤ b ∧ b ≤ 122)) ∧ ((sb b < 48 ∨ 57 < sb b) ↔ ¬ (48 ≤ b ∧ b ≤ 57)) := by decide +kernel
theorem sb_e : ∀ b, b < 128 → sb b = nI b := by decide +kernel
theorem nb_c : ∀ b, b < 256 → (nI b = 32 ↔ b = 32) ∧ (nI b = 10 ↔ b = 10) ∧ (nI b = 59 ↔ b = 59) := by decide +kernel
theorem nb_l : ∀ b, b < 256 → ((nI b < 97 ∨ 122 < nI b) ↔ ¬ (97 ≤ b ∧ b ≤ 122)) ∧ ((nI b < 48 ∨ 57 < nI b) ↔ ¬ (48 ≤ b ∧ b ≤ 57)) := by decide +kernel
def TB (T : Nat) (B : Nat → Nat) (k m : St) : Prop := T ≤ 1400 ∧ gt m 0 1 = nI T ∧ gt k 153 1 = nI T ∧ ∀ i, i < T → B i < 256 ∧ gt k 154 i = nI (B i) ∧ gt m 1 i = sb (B i)
def FnK (k k2 : St) : Prop := ∀ j, j ≠ 155 → k2.1 j = k.1 j
def FnM (m m2 : St) : Prop := (∀ j, j ≠ 0 → m2.1 j = m.1 j) ∧ ∀ i, i < 6 ∨ 9 < i → m2.1 0 i = m.1 0 i
theorem FnK.rf {k : St} : FnK k k := fun _ _ => rfl
theorem FnM.rf {k : St} : FnM k k := ⟨fun _ _ => rfl, fun _ _ => rfl⟩
theorem FnK.tr {a b c : St} (h : FnK a b) (h2 : FnK b c) : FnK a c := fun j x => (h2 j x).trans (h j x)
theorem FnM.tr {a b c : St} (h : FnM a b) (h2 : FnM b c) : FnM a c := ⟨fun j x => (h2.1 j x).trans (h.1 j x), fun i x => (h2.2 i x).trans (h.2 i x)⟩
theorem FnK.st {k : St} {i : Nat} {v : Int32} : FnK k (st k 155 i v) := fun j x => st_row_ne x
theorem FnM.st {m : St} {i : Nat} {v : Int32} (h : 6 ≤ i ∧ i ≤ 9) : FnM m (st m 0 i v) := ⟨fun j x => st_row_ne x, fun a ha => by rw [st_row_same, upd_e, if_neg (by omega)]⟩
theorem FnM.w {m : St} {w : Int64} : FnM m (stw m w) := ⟨fun _ _ => rfl, fun _ _ => rfl⟩
theorem TB.f {T : Nat} {B : Nat → Nat} {k m k2 m2 : St} (h : TB T B k m) (f1 : FnK k k2) (f2 : FnM m m2) : TB T B k2 m2 := by
  refine ⟨h.1, by rw [gt_e, f2.2 1 (by omega)]; exact h.2.1, by rw [gt_e, f1 153 (by omega)]; exact h.2.2.1, fun i hi => ?_⟩
  rw [gt_e, gt_e, f1 154 (by omega), f2.1 1 (by omega)]
  exact h.2.2.2 i hi
theorem stw_g {m : St} {w : Int64} {a b : Nat} : gt (stw m w) a b = gt m a b := rfl
theorem byteAt_e {T : Nat} {B : Nat → Nat} {k m : St} (h : TB T B k m) {i : Nat} (hi : i < T) : Tp_byteAt k (nI i) = some (nI (B i)) := by
  have := h.1
  unfold Tp_byteAt
  rw [if_neg (nI_pos (by omega)), h.2.2.1, if_neg (fun z => by have := (nI_leI (by omega) (by omega)).mp z; omega), rd_n (by omega) (by omega), b1_some, (h.2.2.2 i hi).2.1]
theorem byteAt_o {T : Nat} {B : Nat → Nat} {k m : St} (h : TB T B k m) {i : Nat} (hi : T ≤ i) (hi2 : i < 2 ^ 30) : Tp_byteAt k (nI i) = some (-1) := by
  have := h.1
  unfold Tp_byteAt
  rw [if_neg (nI_pos (by omega)), h.2.2.1, if_pos ((nI_leI (by omega) (by omega)).mpr hi)]
theorem isLetter_e (k : St) {b : Nat} (hb : b < 256) : (isL b ∧ Rd_isLetter k (nI b) = some 1) ∨ (¬ isL b ∧ Rd_isLetter k (nI b) = some 0) := by
  have h := (nb_l b hb).1
  unfold Rd_isLetter
  by_cases c1 : nI b < 97
  · rw [if_pos c1]; exact Or.inr ⟨h.mp (Or.inl c1), rfl⟩
  · rw [if_neg c1]
    by_cases c2 : 122 < nI b
    · rw [if_pos c2]; exact Or.inr ⟨h.mp (Or.inr c2), rfl⟩
    · rw [if_neg c2]
      refine Or.inl ⟨?_, rfl⟩
      apply Classical.byContradiction
      intro z
      exact (h.mpr z).elim c1 c2
theorem isDigit_e (k : St) {b : Nat} (hb : b < 256) : (isD b ∧ Rd_isDigit k (nI b) = some 1) ∨ (¬ isD b ∧ Rd_isDigit k (nI b) = some 0) := by
  have h := (nb_l b hb).2
  unfold Rd_isDigit
  by_cases c1 : nI b < 48
  · rw [if_pos c1]; exact Or.inr ⟨h.mp (Or.inl c1), rfl⟩
  · rw [if_neg c1]
    by_cases c2 : 57 < nI b
    · rw [if_pos c2]; exact Or.inr ⟨h.mp (Or.inr c2), rfl⟩
    · rw [if_neg c2]
      refine Or.inl ⟨?_, rfl⟩
      apply Classical.byContradiction
      intro z
      exact (h.mpr z).elim c1 c2
theorem M_isAtL {T : Nat} {B : Nat → Nat} {k m : St} (h : TB T B k m) {e : Nat} (he : gt m 0 6 = nI e) (heT : e ≤ T) : (e < T ∧ isL (B e) ∧ M_isAt m 97 122 = some 1) ∨ (¬ (e < T ∧ isL (B e)) ∧ M_isAt m 97 122 = some 0) := by
  have h14 := h.1
  unfold M_isAt
  rw [h.2.1, he]
  by_cases c : e < T
  · obtain ⟨b1', b2', b3'⟩ := h.2.2.2 e c
    have hb := (sb_l (B e) b1').1
    rw [if_neg (fun z => by have := (nI_leI (by omega) (by omega)).mp z; omega), rd_n (by omega) (by omega), b1_some, b1_some, b3']
    by_cases c1 : sb (B e) < 97
    · rw [if_pos c1]; exact Or.inr ⟨fun z => hb.mp (Or.inl c1) z.2, rfl⟩
    · rw [if_neg c1]
      by_cases c2 : 122 < sb (B e)
      · rw [if_pos c2]; exact Or.inr ⟨fun z => hb.mp (Or.inr c2) z.2, rfl⟩
      · rw [if_neg c2]
        refine Or.inl ⟨c, ?_, rfl⟩
        apply Classical.byContradiction
        intro z
        exact (hb.mpr z).elim c1 c2
  · rw [if_pos ((nI_leI (by omega) (by omega)).mpr (by omega))]
    exact Or.inr ⟨fun z => c z.1, rfl⟩
theorem M_isAtD {T : Nat} {B : Nat → Nat} {k m : St} (h : TB T B k m) {e : Nat} (he : gt m 0 6 = nI e) (heT : e ≤ T) : (e < T ∧ isD (B e) ∧ M_isAt m 48 57 = some 1) ∨ (¬ (e < T ∧ isD (B e)) ∧ M_isAt m 48 57 = some 0) := by
  have h14 := h.1
  unfold M_isAt
  rw [h.2.1, he]
  by_cases c : e < T
  · obtain ⟨b1', b2', b3'⟩ := h.2.2.2 e c
    have hb := (sb_l (B e) b1').2
    rw [if_neg (fun z => by have := (nI_leI (by omega) (by omega)).mp z; omega), rd_n (by omega) (by omega), b1_some, b1_some, b3']
    by_cases c1 : sb (B e) < 48
    · rw [if_pos c1]; exact Or.inr ⟨fun z => hb.mp (Or.inl c1) z.2, rfl⟩
    · rw [if_neg c1]
      by_cases c2 : 57 < sb (B e)
      · rw [if_pos c2]; exact Or.inr ⟨fun z => hb.mp (Or.inr c2) z.2, rfl⟩
      · rw [if_neg c2]
        refine Or.inl ⟨c, ?_, rfl⟩
        apply Classical.byContradiction
        intro z
        exact (hb.mpr z).elim c1 c2
  · rw [if_pos ((nI_leI (by omega) (by omega)).mpr (by omega))]
    exact Or.inr ⟨fun z => c z.1, rfl⟩
/-- white space -/
theorem spc {T : Nat} {B : Nat → Nat} (kM kK : St → Option St) : ∀ (fu e : Nat) (k m : St), TB T B k m → gt m 0 6 = nI e → gt k 155 5 = nI e → e ≤ T → T < e + fu → ∃ s k2 m2, e ≤ s ∧ s ≤ T ∧ M_next_L0 kM fu m = kM m2 ∧ Rd_nextToken_L13 kK fu (nI e) k = kK k2 ∧ gt m2 0 6 = nI s ∧ gt k2 155 5 = nI s ∧ FnK k k2 ∧ FnM m m2 := by
  intro fu
  induction fu with
  | zero => intro e k m _ _ _ h1 h2; omega
  | succ fu ih =>
    intro e k m h he hk h1 h2
    have h14 := h.1
    rw [M_next_L0, Rd_nextToken_L13]; unfold M_next_B0 Rd_nextToken_B13
    rw [h.2.1, h.2.2.1, he]
    by_cases c : e < T
    · obtain ⟨b1', b2', b3'⟩ := h.2.2.2 e c
      have hle : ¬ nI T ≤ nI e := fun z => by have := (nI_leI (by omega) (by omega)).mp z; omega
      rw [if_neg hle, if_neg hle, byteAt_e h c, b1_some, rd_n (by omega) (by omega), b1_some, b1_some, b3']
      unfold Rd_isSpace M_next_J39
      have s1 := sb_c (B e) b1'
      have s2 := nb_c (B e) b1'
      have adv : ∃ s k2 m2, e ≤ s ∧ s ≤ T ∧ M_next_L0 kM fu (st m 0 6 (nI (e + 1))) = kM m2 ∧ Rd_nextToken_L13 kK fu (nI (e + 1)) (st k 155 5 (nI (e + 1))) = kK k2 ∧ gt m2 0 6 = nI s ∧ gt k2 155 5 = nI s ∧ FnK k k2 ∧ FnM m m2 := by
        obtain ⟨s, k2, m2, a1, a2, a3, a4, a5, a6, a7, a8⟩ := ih (e + 1) (st k 155 5 (nI (e + 1))) (st m 0 6 (nI (e + 1))) (h.f FnK.st (FnM.st (by omega))) gt_st_same gt_st_same (by omega) (by omega)
        exact ⟨s, k2, m2, by omega, a2, a3, a4, a5, a6, FnK.st.tr a7, (FnM.st (by omega)).tr a8⟩
      by_cases c1 : B e = 32
      · rw [if_pos (s1.1.mpr c1), if_pos (s2.1.mpr c1), b1_some, if_neg (by decide), lt_e, lt_e, he, nI_1]
        exact adv
      · rw [if_neg (fun z => c1 (s1.1.mp z)), if_neg (fun z => c1 (s2.1.mp z))]
        by_cases c2 : B e = 10
        · rw [if_pos (s1.2.1.mpr c2), if_pos (s2.2.1.mpr c2), b1_some, if_neg (by decide), lt_e, lt_e, he, nI_1]
          exact adv
        · rw [if_neg (fun z => c2 (s1.2.1.mp z)), if_neg (fun z => c2 (s2.2.1.mp z)), b1_some, if_pos rfl]
          exact ⟨e, k, m, Nat.le_refl _, by omega, rfl, rfl, he, hk, FnK.rf, FnM.rf⟩
    · have hle : nI T ≤ nI e := (nI_leI (by omega) (by omega)).mpr (by omega)
      rw [if_pos hle, if_pos hle]
      exact ⟨e, k, m, Nat.le_refl _, h1, rfl, rfl, he, hk, FnK.rf, FnM.rf⟩
/-- a word as a number -/
def enc (c : Nat → Nat) : Nat → Nat
  | 0 => 0
  | n + 1 => 32 * enc c n + c n
theorem enc_lt {c : Nat → Nat} : ∀ n, (∀ i, i < n → c i < 32) → enc c n < 32 ^ n := by
  intro n
  induction n with
  | zero => intro _; rw [enc]; omega
  | succ n ih =>
    intro h
    have h1 := ih (fun i hi => h i (by omega))
    have h2 := h n (by omega)
    rw [enc, Nat.pow_succ]; omega
def eB (B : Nat → Nat) (s : Nat) (i : Nat) : Nat := B (s + i) - 96
theorem word_loop {T : Nat} {B : Nat → Nat} {s : Nat} : ∀ (fu e : Nat) (k m : St), TB T B k m → gt m 0 6 = nI e → gt m 0 7 = nI s → gt k 155 4 = nI e → s ≤ e → e ≤ T → (∀ i, s ≤ i → i < e → isL (B i)) → m.2 = lN (enc (eB B s) (min (e - s) 12)) → T < e + fu → ∃ e2 k2 m2, e ≤ e2 ∧ e2 ≤ T ∧ (e2 < T → ¬ isL (B e2)) ∧ (∀ i, s ≤ i → i < e2 → isL (B i)) ∧ M_next_L100 fu m = some m2 ∧ Rd_endWord_L5 fu (nI e) k = some k2 ∧ gt m2 0 6 = nI e2 ∧ gt m2 0 7 = nI s ∧ gt m2 0 8 = nI 1 ∧ gt k2 155 4 = nI e2 ∧ m2.2 = lN (enc (eB B s) (min (e2 - s) 12)) ∧ FnK k k2 ∧ FnM m m2 ∧ ∀ i, i ≠ 4 → k2.1 155 i = k.1 155 i := by
  intro fu
  induction fu with
  | zero => intro e k m _ _ _ _ _ h1 _ _ h2; omega
  | succ fu ih =>
    intro e k m h he hs hk hse h1 hL hw h2
    have h14 := h.1
    rw [M_next_L100, Rd_endWord_L5]; unfold M_next_B100 Rd_endWord_B5
    rw [h.2.2.1]
    have stop : ¬ (e < T ∧ isL (B e)) → ∃ e2 k2 m2, e ≤ e2 ∧ e2 ≤ T ∧ (e2 < T → ¬ isL (B e2)) ∧ (∀ i, s ≤ i → i < e2 → isL (B i)) ∧ some (st m 0 8 1) = some m2 ∧ some k = some k2 ∧ gt m2 0 6 = nI e2 ∧ gt m2 0 7 = nI s ∧ gt m2 0 8 = nI 1 ∧ gt k2 155 4 = nI e2 ∧ m2.2 = lN (enc (eB B s) (min (e2 - s) 12)) ∧ FnK k k2 ∧ FnM m m2 ∧ ∀ i, i ≠ 4 → k2.1 155 i = k.1 155 i := fun q => by
      exact ⟨e, k, _, Nat.le_refl _, h1, fun z w => q ⟨z, w⟩, hL, rfl, rfl, by rw [gt_st_i (by omega)]; exact he, by rw [gt_st_i (by omega)]; exact hs, gt_st_same, hk, hw, FnK.rf, FnM.st (by omega), fun _ _ => rfl⟩
    rcases M_isAtL h he h1 with ⟨c, cl, e1⟩ | ⟨c, e1⟩
    · obtain ⟨b1', b2', b3'⟩ := h.2.2.2 e c
      have hle : ¬ nI T ≤ nI e := fun z => by have := (nI_leI (by omega) (by omega)).mp z; omega
      rw [e1, b1_some, if_neg (show ¬ (1 : Int32) = 0 by decide), if_neg hle, byteAt_e h c, b1_some]
      rcases isLetter_e k b1' with ⟨_, e2⟩ | ⟨d, _⟩
      · rw [e2, b1_some, if_neg (show ¬ (1 : Int32) = 0 by decide), lt_e, nI_1, he, hs, sub_le hse, li12]
        have hcl : isL (B e) := cl
        have hb128 : B e < 128 := by have := hcl.2; omega
        have key : ∀ z : Int64, z = lN (enc (eB B s) (min (e + 1 - s) 12)) → ∃ e2 k2 m2, e ≤ e2 ∧ e2 ≤ T ∧ (e2 < T → ¬ isL (B e2)) ∧ (∀ i, s ≤ i → i < e2 → isL (B i)) ∧ M_next_J156 (M_next_L100 fu) z m = some m2 ∧ Rd_endWord_L5 fu (nI (e + 1)) (st k 155 4 (nI (e + 1))) = some k2 ∧ gt m2 0 6 = nI e2 ∧ gt m2 0 7 = nI s ∧ gt m2 0 8 = nI 1 ∧ gt k2 155 4 = nI e2 ∧ m2.2 = lN (enc (eB B s) (min (e2 - s) 12)) ∧ FnK k k2 ∧ FnM m m2 ∧ ∀ i, i ≠ 4 → k2.1 155 i = k.1 155 i := fun z hz => by
          unfold M_next_J156
          rw [lt_e, lt_e, stw_g, he, nI_1]
          have f2 : FnM m (st (stw m z) 0 6 (nI (e + 1))) := FnM.w.tr (FnM.st (by omega))
          obtain ⟨x, k2, m2, a1, a2, a3, a4, a5, a6, a7, a8, a9, a10, a11, a12, a13, a14⟩ := ih (e + 1) (st k 155 4 (nI (e + 1))) (st (stw m z) 0 6 (nI (e + 1))) (h.f FnK.st f2) gt_st_same (by rw [gt_st_i (by omega), stw_g]; exact hs) gt_st_same (by omega) (by omega) (fun i x y => by
            by_cases d : i = e
            · rw [d]; exact cl
            · exact hL i x (by omega)) (by rw [st_2]; exact hz) (by omega)
          exact ⟨x, k2, m2, by omega, a2, a3, a4, a5, a6, a7, a8, a9, a10, a11, FnK.st.tr a12, f2.tr a13, fun i hi => by rw [a14 i hi, st_row_same, upd_e, if_neg hi]⟩
        by_cases c12 : 12 ≤ e - s
        · rw [if_pos ((nI_leI (by omega) (by omega)).mpr c12)]
          exact key m.2 (by rw [hw, show min (e - s) 12 = min (e + 1 - s) 12 by omega])
        · rw [if_neg (fun z => c12 ((nI_leI (by omega) (by omega)).mp z)), rd_n (by omega) (by omega), b1_some, b3', sb_e _ hb128]
          refine key _ ?_
          rw [hw, nI_l (by omega), show (32 : Int64) = lN 32 from rfl, show (96 : Int64) = lN 96 from rfl, lN_mul, lN_add, lN_sub (by have := hcl.1; omega), show min (e - s) 12 = e - s by omega, show min (e + 1 - s) 12 = (e - s) + 1 by omega, enc]
          have : eB B s (e - s) = B e - 96 := by unfold eB; rw [show s + (e - s) = e by omega]
          rw [this]
          have := hcl.1
          rw [show 32 * enc (eB B s) (e - s) + B e - 96 = 32 * enc (eB B s) (e - s) + (B e - 96) by omega]
      · exact absurd cl d
    · rw [e1, b1_some, if_pos rfl]
      by_cases cT : e < T
      · obtain ⟨b1', b2', b3'⟩ := h.2.2.2 e cT
        rw [if_neg (fun z => by have := (nI_leI (by omega) (by omega)).mp z; omega), byteAt_e h cT, b1_some]
        rcases isLetter_e k b1' with ⟨d, _⟩ | ⟨_, e2⟩
        · exact absurd ⟨cT, d⟩ c
        · rw [e2, b1_some, if_pos rfl]; exact stop c
      · rw [if_pos ((nI_leI (by omega) (by omega)).mpr (by omega))]; exact stop c
theorem rem_e {y : Nat} (hy : y < 2 ^ 31) : nI y - nI y / 10000 * 10000 = nI (y % 10000) := by
  rw [show (10000 : Int32) = nI 10000 by decide, pk_div hy (by omega) (by omega), pk_mul, sub_le (by omega), show y - y / 10000 * 10000 = y % 10000 by omega]
theorem num_loop {T : Nat} {B : Nat → Nat} {s : Nat} (kM : St → Option St) (kK : Int32 → St → Option St) : ∀ (fu e vm vk : Nat) (k m : St), TB T B k m → gt m 0 6 = nI e → gt m 0 7 = nI s → gt k 155 4 = nI e → s ≤ e → e ≤ T → gt m 0 9 = nI vm → vm ≤ 9999 → vk ≤ 9999 → (e - s ≤ 4 → vm = vk ∧ vm < 10 ^ (e - s)) → T < e + fu → ∃ e2 vm2 vk2 k2 m2, e ≤ e2 ∧ e2 ≤ T ∧ M_next_L191 kM fu m = kM m2 ∧ Rd_endNumber_L7 kK fu (nI vk) (nI e) k = kK (nI vk2) k2 ∧ gt m2 0 6 = nI e2 ∧ gt m2 0 7 = nI s ∧ gt k2 155 4 = nI e2 ∧ gt m2 0 9 = nI vm2 ∧ vm2 ≤ 9999 ∧ (e2 - s ≤ 4 → vm2 = vk2) ∧ FnK k k2 ∧ FnM m m2 ∧ (∀ i, i ≠ 4 → k2.1 155 i = k.1 155 i) ∧ (e < T → isD (B e) → e < e2) := by
  intro fu
  induction fu with
  | zero => intro e vm vk k m _ _ _ _ _ h1 _ _ _ _ h2; omega
  | succ fu ih =>
    intro e vm vk k m h he hs hk hse h1 hv hvm hvk hvv h2
    have h14 := h.1
    rw [M_next_L191, Rd_endNumber_L7]; unfold M_next_B191 Rd_endNumber_B7
    rw [h.2.2.1]
    rcases M_isAtD h he h1 with ⟨c, cl, e1⟩ | ⟨c, e1⟩
    · obtain ⟨b1', b2', b3'⟩ := h.2.2.2 e c
      have hcl : isD (B e) := cl
      have hl1 := hcl.1
      have hl2 := hcl.2
      have hle : ¬ nI T ≤ nI e := fun z => by have := (nI_leI (by omega) (by omega)).mp z; omega
      rw [e1, b1_some, if_neg (show ¬ (1 : Int32) = 0 by decide), if_neg hle, byteAt_e h c, b1_some]
      rcases isDigit_e k b1' with ⟨_, e2⟩ | ⟨d, _⟩
      · rw [e2, b1_some, if_neg (show ¬ (1 : Int32) = 0 by decide), lt_e, byteAt_e (h.f FnK.st FnM.rf) c, b1_some, lt_e, he, hs, hv, sub_le hse, li4, nI_1]
        have hK : nI vk * 10 + nI (B e) - 48 - (nI vk * 10 + nI (B e) - 48) / 10000 * 10000 = nI ((vk * 10 + B e - 48) % 10000) := by
          rw [li10, pk_mul, nI_add, li48, sub_le (by omega), rem_e (by omega)]
        rw [hK]
        have key : ∀ (z : Int32) (zn : Nat), z = nI zn → zn ≤ 9999 → (e + 1 - s ≤ 4 → zn = (vk * 10 + B e - 48) % 10000 ∧ zn < 10 ^ (e + 1 - s)) → ∃ e2 vm2 vk2 k2 m2, e ≤ e2 ∧ e2 ≤ T ∧ M_next_J243 kM (M_next_L191 kM fu) z m = kM m2 ∧ Rd_endNumber_L7 kK fu (nI ((vk * 10 + B e - 48) % 10000)) (nI (e + 1)) (st k 155 4 (nI (e + 1))) = kK (nI vk2) k2 ∧ gt m2 0 6 = nI e2 ∧ gt m2 0 7 = nI s ∧ gt k2 155 4 = nI e2 ∧ gt m2 0 9 = nI vm2 ∧ vm2 ≤ 9999 ∧ (e2 - s ≤ 4 → vm2 = vk2) ∧ FnK k k2 ∧ FnM m m2 ∧ (∀ i, i ≠ 4 → k2.1 155 i = k.1 155 i) ∧ (e < T → isD (B e) → e < e2) := fun z zn hz hzn hzz => by
          unfold M_next_J243
          rw [lt_e, lt_e, gt_st_i (by omega), he, nI_1, hz]
          have f2 : FnM m (st (st m 0 9 (nI zn)) 0 6 (nI (e + 1))) := (FnM.st (by omega)).tr (FnM.st (by omega))
          obtain ⟨x, p1, p2, k2, m2, a1, a2, a3, a4, a5, a6, a7, a8, a9, a10, a11, a12, a13, _⟩ := ih (e + 1) zn ((vk * 10 + B e - 48) % 10000) (st k 155 4 (nI (e + 1))) (st (st m 0 9 (nI zn)) 0 6 (nI (e + 1))) (h.f FnK.st f2) gt_st_same (by rw [gt_st_i (by omega), gt_st_i (by omega)]; exact hs) gt_st_same (by omega) (by omega) (by rw [gt_st_i (by omega), gt_st_same]) hzn (by omega) hzz (by omega)
          exact ⟨x, p1, p2, k2, m2, by omega, a2, a3, a4, a5, a6, a7, a8, a9, a10, FnK.st.tr a11, f2.tr a12, fun i hi => by rw [a13 i hi, st_row_same, upd_e, if_neg hi], fun _ _ => by omega⟩
        by_cases c4 : 4 ≤ e - s
        · rw [if_pos ((nI_leI (by omega) (by omega)).mpr c4)]
          exact key (nI vm) vm rfl hvm (fun q => by omega)
        · obtain ⟨q1, q2⟩ := hvv (by omega)
          have hpow : 10 ^ (e - s) ≤ 1000 := by
            rcases (show e - s = 0 ∨ e - s = 1 ∨ e - s = 2 ∨ e - s = 3 by omega) with z | z | z | z <;> rw [z] <;> decide
          have hp2 : 10 ^ (e + 1 - s) = 10 * 10 ^ (e - s) := by rw [show e + 1 - s = (e - s) + 1 by omega, Nat.pow_succ]; omega
          rw [if_neg (fun z => c4 ((nI_leI (by omega) (by omega)).mp z)), rd_n (by omega) (by omega), b1_some, b3', sb_e _ (by omega), li10, pk_mul, nI_add, li48, sub_le (by omega)]
          exact key _ (10 * vm + B e - 48) rfl (by omega) (fun _ => ⟨by rw [q1]; omega, by omega⟩)
      · exact absurd cl d
    · rw [e1, b1_some, if_pos rfl]
      have stop : ∃ e2 vm2 vk2 k2 m2, e ≤ e2 ∧ e2 ≤ T ∧ kM m = kM m2 ∧ kK (nI vk) k = kK (nI vk2) k2 ∧ gt m2 0 6 = nI e2 ∧ gt m2 0 7 = nI s ∧ gt k2 155 4 = nI e2 ∧ gt m2 0 9 = nI vm2 ∧ vm2 ≤ 9999 ∧ (e2 - s ≤ 4 → vm2 = vk2) ∧ FnK k k2 ∧ FnM m m2 ∧ (∀ i, i ≠ 4 → k2.1 155 i = k.1 155 i) ∧ (e < T → isD (B e) → e < e2) :=
        ⟨e, vm, vk, k, m, Nat.le_refl _, h1, rfl, rfl, he, hs, hk, hv, hvm, fun q => (hvv q).1, FnK.rf, FnM.rf, fun _ _ => rfl, fun x y => absurd ⟨x, y⟩ c⟩
      by_cases cT : e < T
      · obtain ⟨b1', b2', b3'⟩ := h.2.2.2 e cT
        rw [if_neg (fun z => by have := (nI_leI (by omega) (by omega)).mp z; omega), byteAt_e h cT, b1_some]
        rcases isDigit_e k b1' with ⟨d, _⟩ | ⟨_, e2⟩
        · exact absurd ⟨cT, d⟩ c
        · rw [e2, b1_some, if_pos rfl]; exact stop
      · rw [if_pos ((nI_leI (by omega) (by omega)).mpr (by omega))]; exact stop
/-- the token in hand: its kind, from s to e, its value -/
def PR (T : Nat) (B : Nat → Nat) (k m : St) (kd s e v : Nat) : Prop := s ≤ e ∧ e ≤ T ∧ kd ≤ 4 ∧ (gt m 0 6 = nI e ∧ gt m 0 7 = nI s ∧ gt m 0 8 = nI kd) ∧ (gt k 155 2 = nI kd ∧ gt k 155 4 = nI e ∧ gt k 155 5 = nI s) ∧ (kd = 2 → gt m 0 9 = nI v ∧ gt k 155 3 = nI v ∧ v ≤ 9999) ∧ (kd ≠ 2 → gt k 155 3 = -1) ∧ (kd = 1 → (∀ i, s ≤ i → i < e → isL (B i)) ∧ m.2 = lN (enc (eB B s) (min (e - s) 12)))
theorem next_both {T : Nat} {B : Nat → Nat} {k m : St} {e : Nat} (h : TB T B k m) (he : gt m 0 6 = nI e) (hk : gt k 155 4 = nI e) (heT : e ≤ T) : ∃ k2 m2 kd s e2 v, M_next m = some m2 ∧ Rd_nextToken k = some k2 ∧ PR T B k2 m2 kd s e2 v ∧ FnK k k2 ∧ FnM m m2 := by
  have h14 := h.1
  unfold M_next Rd_nextToken
  rw [lt_e, lt_e, gt_st_i (by omega), hk]
  obtain ⟨s, k1, m1, a1, a2, a3, a4, a5, a6, a7, a8⟩ := spc (fun q7 => M_next_J52 q7) (fun q8 => Rd_nextToken_J51 q8) FU e (st k 155 5 (nI e)) m (h.f FnK.st FnM.rf) he gt_st_same heT (by rw [FU_e]; omega)
  rw [a3, a4]
  have hk1 : FnK k k1 := FnK.st.tr a7
  have h1 := h.f hk1 a8
  unfold M_next_J52 Rd_nextToken_J51
  rw [lt_e, lt_e, lt_e, lt_e, lt_e, a5, a6]
  obtain ⟨m2, hm2⟩ : ∃ m2, m2 = stw (st (st m1 0 7 (nI s)) 0 9 0) 0 := ⟨_, rfl⟩
  obtain ⟨k2, hk2⟩ : ∃ k2, k2 = st (st k1 155 4 (nI s)) 155 3 (-1) := ⟨_, rfl⟩
  have fm : FnM m1 m2 := by rw [hm2]; exact ((FnM.st (by omega)).tr (FnM.st (by omega))).tr FnM.w
  have fk : FnK k1 k2 := by rw [hk2]; exact FnK.st.tr FnK.st
  have g6 : gt m2 0 6 = nI s := by rw [hm2, stw_g, gt_st_i (by omega), gt_st_i (by omega)]; exact a5
  have g7 : gt m2 0 7 = nI s := by rw [hm2, stw_g, gt_st_i (by omega), gt_st_same]
  have g9 : gt m2 0 9 = nI 0 := by rw [hm2, stw_g, gt_st_same]; rfl
  have gw : m2.2 = lN 0 := by rw [hm2]; rfl
  have k4 : gt k2 155 4 = nI s := by rw [hk2, gt_st_i (by omega), gt_st_same]
  have k3 : gt k2 155 3 = -1 := by rw [hk2, gt_st_same]
  have k5 : gt k2 155 5 = nI s := by rw [hk2, gt_st_i (by omega), gt_st_i (by omega)]; exact a6
  rw [← hm2, ← hk2]
  clear hm2 hk2
  have h2 := h1.f fk fm
  have fM := a8.tr fm
  have fK := hk1.tr fk
  rw [g6, h2.2.1, lt_e, k5]
  by_cases cT : s = T
  · rw [if_pos (by rw [cT]), byteAt_o h2 (by omega) (by omega), b1_some, if_pos rfl, lt_e]
    refine ⟨_, _, 0, s, s, 0, rfl, rfl, ⟨Nat.le_refl _, a2, by omega, ⟨by rw [gt_st_i (by omega)]; exact g6, by rw [gt_st_i (by omega)]; exact g7, gt_st_same⟩, ⟨gt_st_same, by rw [gt_st_i (by omega)]; exact k4, by rw [gt_st_i (by omega)]; exact k5⟩, fun z => by omega, fun _ => by rw [gt_st_i (by omega)]; exact k3, fun z => by omega⟩, fK.tr FnK.st, fM.tr (FnM.st (by omega))⟩
  · have hsT : s < T := by omega
    obtain ⟨b1', b2', b3'⟩ := h2.2.2.2 s hsT
    rw [if_neg (fun z => cT (nI_inj (by omega) (by omega) z)), byteAt_e h2 hsT, b1_some, if_neg (nI_neg1 (by omega))]
    rcases M_isAtL h2 g6 a2 with ⟨_, cl, e1⟩ | ⟨c, e1⟩
    · rcases isLetter_e k2 b1' with ⟨_, e2⟩ | ⟨d, _⟩
      · rw [e1, e2, b1_some, b1_some, if_neg (by decide), if_neg (by decide), lt_e]
        unfold Rd_endWord
        rw [lt_e, gt_st_i (by omega), k5]
        obtain ⟨e2', k6, m6, c1, c2, c3, c4, c5, c6, c7, c8, c9, c10, c11, c12, c13, c14⟩ := word_loop (s := s) FU s (st k2 155 2 1) m2 (h2.f FnK.st FnM.rf) g6 g7 (by rw [gt_st_i (by omega)]; exact k4) (Nat.le_refl _) a2 (fun i x y => by omega) (by rw [gw, Nat.sub_self]; rfl) (by rw [FU_e]; omega)
        rw [c5, c6, b1_some]
        refine ⟨k6, m6, 1, s, e2', 0, rfl, rfl, ⟨c1, c2, by omega, ⟨c7, c8, c9⟩, ⟨?_, c10, ?_⟩, fun z => by omega, fun _ => ?_, fun _ => ⟨c4, c11⟩⟩, (fK.tr FnK.st).tr c12, fM.tr c13⟩
        · rw [gt_e, c14 2 (by omega), ← gt_e, gt_st_same]; rfl
        · rw [gt_e, c14 5 (by omega), ← gt_e, gt_st_i (by omega)]; exact k5
        · rw [gt_e, c14 3 (by omega), ← gt_e, gt_st_i (by omega)]; exact k3
      · exact absurd cl d
    · rcases isLetter_e k2 b1' with ⟨d, _⟩ | ⟨_, e2⟩
      · exact absurd ⟨hsT, d⟩ c
      · rw [e1, e2, b1_some, b1_some, if_pos rfl, if_pos rfl]
        rcases M_isAtD h2 g6 a2 with ⟨_, cl, e3⟩ | ⟨c', e3⟩
        · rcases isDigit_e k2 b1' with ⟨_, e4⟩ | ⟨d, _⟩
          · rw [e3, e4, b1_some, b1_some, if_neg (by decide), if_neg (by decide)]
            unfold Rd_endNumber
            rw [lt_e, k5]
            obtain ⟨e2', vm, vk, k6, m6, c1, c2, c3, c4, c5, c6, c7, c8, c9, c10, c11, c12, c13, c14⟩ := num_loop (s := s) (fun q26 => if gt q26 0 6 - gt q26 0 7 ≤ 4 then lt_ (st q26 0 8 2) fun q28 => some q28 else lt_ (st q26 0 8 4) fun q29 => some q29) (fun y9 q10 => Rd_endNumber_J66 y9 q10) FU s 0 0 k2 m2 h2 g6 g7 k4 (Nat.le_refl _) a2 g9 (by omega) (by omega) (fun _ => ⟨rfl, by rw [Nat.sub_self]; decide⟩) (by rw [FU_e]; omega)
            rw [show nI 0 = 0 from rfl] at c4
            rw [c3, c4]
            unfold Rd_endNumber_J66
            have k65 : gt k6 155 5 = nI s := by rw [gt_e, c13 5 (by omega), ← gt_e]; exact k5
            rw [c5, c6, c7, k65, sub_le (by omega), li4]
            by_cases c4' : e2' - s ≤ 4
            · rw [if_pos ((nI_leI (by omega) (by omega)).mpr c4'), if_neg (fun z => by have := (nI_ltI (by omega) (by omega)).mp z; omega), lt_e]
              unfold Rd_endNumber_J84 Rd_endNumber_J95
              rw [if_neg (by decide), lt_e, if_neg (by decide), lt_e, b1_some]
              refine ⟨_, _, 2, s, e2', vm, rfl, rfl, ⟨by omega, c2, by omega, ⟨by rw [gt_st_i (by omega)]; exact c5, by rw [gt_st_i (by omega)]; exact c6, gt_st_same⟩, ⟨by rw [gt_st_i (by omega), gt_st_same]; rfl, by rw [gt_st_i (by omega), gt_st_i (by omega)]; exact c7, by rw [gt_st_i (by omega), gt_st_i (by omega)]; exact k65⟩, fun _ => ⟨by rw [gt_st_i (by omega)]; exact c8, by rw [gt_st_same, c10 c4'], c9⟩, fun z => absurd rfl z, fun z => by omega⟩, ((fK.tr c11).tr FnK.st).tr FnK.st, (fM.tr c12).tr (FnM.st (by omega))⟩
            · rw [if_neg (fun z => c4' ((nI_leI (by omega) (by omega)).mp z)), if_pos ((nI_ltI (by omega) (by omega)).mpr (by omega)), lt_e]
              unfold Rd_endNumber_J84 Rd_endNumber_J95
              rw [if_pos rfl, lt_e, if_pos rfl, lt_e, b1_some]
              refine ⟨_, _, 4, s, e2', 0, rfl, rfl, ⟨by omega, c2, by omega, ⟨by rw [gt_st_i (by omega)]; exact c5, by rw [gt_st_i (by omega)]; exact c6, gt_st_same⟩, ⟨by rw [gt_st_i (by omega), gt_st_same]; rfl, by rw [gt_st_i (by omega), gt_st_i (by omega)]; exact c7, by rw [gt_st_i (by omega), gt_st_i (by omega)]; exact k65⟩, fun z => by omega, fun _ => gt_st_same, fun z => by omega⟩, ((fK.tr c11).tr FnK.st).tr FnK.st, (fM.tr c12).tr (FnM.st (by omega))⟩
          · exact absurd cl d
        · rcases isDigit_e k2 b1' with ⟨d, _⟩ | ⟨_, e4⟩
          · exact absurd ⟨hsT, d⟩ c'
          · rw [e3, e4, b1_some, b1_some, if_pos rfl, if_pos rfl, rd_n (by omega) (by omega), b1_some, b3']
            have s1 := (sb_c (B s) b1').2.2
            have s2 := (nb_c (B s) b1').2.2
            have J : ∀ x : Nat, x ≤ 4 → x ≠ 2 → x ≠ 1 → ∃ k9 m9 kd s9 e9 v, M_next_J304 (nI x) m2 = some m9 ∧ Rd_nextToken_J134 (nI x) k2 = some k9 ∧ PR T B k9 m9 kd s9 e9 v ∧ FnK k k9 ∧ FnM m m9 := fun x hx hx2 hx1 => by
              unfold M_next_J304 Rd_nextToken_J134
              rw [lt_e, lt_e, lt_e, lt_e, gt_st_i (by omega), gt_st_i (by omega), g6, k5, nI_1]
              exact ⟨_, _, x, s, s + 1, 0, rfl, rfl, ⟨by omega, by omega, hx, ⟨gt_st_same, by rw [gt_st_i (by omega), gt_st_i (by omega)]; exact g7, by rw [gt_st_i (by omega), gt_st_same]⟩, ⟨by rw [gt_st_i (by omega), gt_st_same], gt_st_same, by rw [gt_st_i (by omega), gt_st_i (by omega)]; exact k5⟩, fun z => absurd z hx2, fun _ => by rw [gt_st_i (by omega), gt_st_i (by omega)]; exact k3, fun z => absurd z hx1⟩, (fK.tr FnK.st).tr FnK.st, (fM.tr (FnM.st (by omega))).tr (FnM.st (by omega))⟩
            by_cases c9 : B s = 59
            · rw [if_pos (s1.mpr c9), if_pos (s2.mpr c9)]; exact J 3 (by omega) (by omega) (by omega)
            · rw [if_neg (fun z => c9 (s1.mp z)), if_neg (fun z => c9 (s2.mp z))]; exact J 4 (by omega) (by omega) (by omega)
