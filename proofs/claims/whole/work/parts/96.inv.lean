/-! ===== PHASE B: what holds between two calls; arguments ===== -/
/-- the tape, and where the last error was -/
def Tp (k m : St) : Prop := gt k 0 12 = gt m 0 2 ∧ (∀ f, f < 4 → gt k 18 (f * 6) = 0) ∧ ∃ T, T ≤ 1400 ∧ gt m 0 1 = nI T ∧ gt k 153 1 = nI T ∧ ∀ i, i < T → ∃ b, b < 256 ∧ gt k 154 i = nI b ∧ gt m 1 i = (nI b).toInt8.toInt32
def Inv (k m : St) : Prop := ∃ A, WFg A ∧ RM A m ∧ RK A sI (A 0 4) k ∧ Tp k m ∧ Hs A k m
theorem Tp.row {k m k2 m2 : St} (h : Tp k m) (h1 : m2.1 1 = m.1 1) (h0 : ∀ i, i = 1 ∨ i = 2 → m2.1 0 i = m.1 0 i) (hk : ∀ j, j = 0 ∨ j = 18 ∨ j = 153 ∨ j = 154 → k2.1 j = k.1 j) : Tp k2 m2 := by
  obtain ⟨a, z, T, b, c, d, e⟩ := h
  refine ⟨?_, fun f hf => by rw [gt_e, hk 18 (by omega)]; exact z f hf, T, b, by rw [gt_e, h0 1 (by omega)]; exact c, by rw [gt_e, hk 153 (by omega)]; exact d, fun i hi => ?_⟩
  · rw [gt_e, gt_e, hk 0 (by omega), h0 2 (by omega)]; exact a
  · rw [gt_e, gt_e, hk 154 (by omega), h1]; exact e i hi
theorem Es.tr {A B C : Ab} (h : Es A B) (h2 : Es B C) : Es A C := fun a j x y => (h2 a j x y).trans (h a j x y)
theorem Es.sy {A B : Ab} (h : Es A B) : Es B A := fun a j x y => (h a j x y).symm
theorem Es.rf {A : Ab} : Es A A := fun _ _ _ _ => rfl
theorem Inv.same {A : Ab} {k m k2 m2 : St} (hG : WFg A) (hR : RM A m2) (hK : RK A sI (A 0 4) k2) (hT : Tp k m) (hH : Hs A k m) (h1 : ∀ j, j = 1 ∨ j = 6 → m2.1 j = m.1 j) (h0 : ∀ i, i = 1 ∨ i = 2 ∨ i = 15 → m2.1 0 i = m.1 0 i) (hk : ∀ j, j = 0 ∨ j = 18 ∨ (41 ≤ j ∧ j < 155) → k2.1 j = k.1 j) : Inv k2 m2 :=
  ⟨A, hG, hR, hK, hT.row (h1 1 (by omega)) (fun i hi => h0 i (by omega)) (fun j hj => hk j (by omega)), hH.row (fun j a b => hk j (by omega)) (h1 6 (by omega)) (h0 15 (by omega))⟩
theorem Inv.fr {A B : Ab} {k m k2 m2 : St} (hG : WFg B) (hR : RM B m2) (hK : RK B sI (B 0 4) k2) (hT : Tp k m) (hH : Hs A k m) (hE : Es A B) (h1 : Fx m m2) (h2 : Fy k k2) : Inv k2 m2 :=
  Inv.same hG hR hK hT (hH.es hE) (fun j hj => h1.1 j (by omega)) (fun i hi => h1.2 i (by omega) (by omega)) (fun j hj => h2 j (by omega))
/-- arguments -/
theorem iff_lt0 (v : Int32) : v < 0 ↔ v.toInt < 0 := by
  rw [i32_lt]; exact Iff.rfl
theorem le_nI (v : Int32) {n : Nat} (hn : n < 2 ^ 31) : nI n ≤ v ↔ (n : Int) ≤ v.toInt := by rw [i32_le, nI_toInt hn]
theorem nI_lt_v (v : Int32) {n : Nat} (hn : n < 2 ^ 31) : nI n < v ↔ (n : Int) < v.toInt := by rw [i32_lt, nI_toInt hn]
theorem v_lt_nI (v : Int32) {n : Nat} (hn : n < 2 ^ 31) : v < nI n ↔ v.toInt < (n : Int) := by rw [i32_lt, nI_toInt hn]
theorem v_le_nI (v : Int32) {n : Nat} (hn : n < 2 ^ 31) : v ≤ nI n ↔ v.toInt ≤ (n : Int) := by rw [i32_le, nI_toInt hn]
theorem arg_in {v : Int32} {n : Nat} (hn : n < 2 ^ 31) (h : 0 ≤ v.toInt ∧ v.toInt < n) : ∃ j, j < n ∧ v = nI j := (ncases v hn).elim id (fun z => absurd h z)
theorem K_in {α : Type} (v : Int32) {n : Nat} (hn : n < 2 ^ 31) (a b : α) : (if v < (0 : Int32) then a else if nI n ≤ v then a else b) = if 0 ≤ v.toInt ∧ v.toInt < n then b else a := by
  by_cases c1 : v < (0 : Int32)
  · have := (iff_lt0 v).mp c1
    rw [if_pos c1, if_neg (by omega)]
  · have h1 : ¬ v.toInt < 0 := fun z => c1 ((iff_lt0 v).mpr z)
    rw [if_neg c1]
    by_cases c2 : nI n ≤ v
    · have := (le_nI v hn).mp c2
      rw [if_pos c2, if_neg (by omega)]
    · have h2 : ¬ (n : Int) ≤ v.toInt := fun z => c2 ((le_nI v hn).mpr z)
      rw [if_neg c2, if_pos (by omega)]
theorem node_c {A : Ab} {k m : St} (hG : WFg A) (hR : RM A m) (hK : RK A sI (A 0 4) k) (v : Int32) : (∃ n, n < A 0 0 ∧ v = nI n ∧ M_isNode m v = some 1 ∧ K_isNode k v = some 1) ∨ (M_isNode m v = some 0 ∧ K_isNode k v = some 0) := by
  have hN := hG.1.1.1
  have hk : K_isNode k v = some (if 0 ≤ v.toInt ∧ v.toInt < A 0 0 then 1 else 0) := by
    unfold K_isNode
    rw [hK.n0, K_in v (by omega)]
    split <;> rfl
  rw [M_isNode_e hG.1.1 hR v, hk]
  by_cases c : 0 ≤ v.toInt ∧ v.toInt < A 0 0
  · obtain ⟨n, h1, h2⟩ := arg_in (by omega) c
    rw [if_pos c]; exact Or.inl ⟨n, h1, h2, rfl, rfl⟩
  · rw [if_neg c]; exact Or.inr ⟨rfl, rfl⟩
theorem link_c {A : Ab} {k m : St} (hG : WFg A) (hR : RM A m) (hK : RK A sI (A 0 4) k) (v : Int32) : (∃ n, n < A 0 1 ∧ v = nI n ∧ M_isLink m v = some 1 ∧ K_isLink k v = some 1) ∨ (M_isLink m v = some 0 ∧ K_isLink k v = some 0) := by
  have hN := hG.1.1.1
  have hk : K_isLink k v = some (if 0 ≤ v.toInt ∧ v.toInt < A 0 1 then 1 else 0) := by
    unfold K_isLink
    rw [hK.n1, K_in v (by omega)]
    split <;> rfl
  rw [M_isLink_e hG.1.1 hR v, hk]
  by_cases c : 0 ≤ v.toInt ∧ v.toInt < A 0 1
  · obtain ⟨n, h1, h2⟩ := arg_in (by omega) c
    rw [if_pos c]; exact Or.inl ⟨n, h1, h2, rfl, rfl⟩
  · rw [if_neg c]; exact Or.inr ⟨rfl, rfl⟩
theorem format_c {A : Ab} {k m : St} (hG : WFg A) (hR : RM A m) (hK : RK A sI (A 0 4) k) (v : Int32) : (∃ n, n < A 0 2 ∧ v = nI n ∧ M_isFormat m v = some 1 ∧ K_isFormat k v = some 1) ∨ (¬ (0 ≤ v.toInt ∧ v.toInt < A 0 2) ∧ M_isFormat m v = some 0 ∧ K_isFormat k v = some 0) := by
  have hN := hG.1.1.1
  have hk : K_isFormat k v = some (if 0 ≤ v.toInt ∧ v.toInt < A 0 2 then 1 else 0) := by
    unfold K_isFormat
    rw [hK.n2, K_in v (by omega)]
    split <;> rfl
  rw [M_isFormat_e hG.1.1 hR v, hk]
  by_cases c : 0 ≤ v.toInt ∧ v.toInt < A 0 2
  · obtain ⟨n, h1, h2⟩ := arg_in (by omega) c
    rw [if_pos c]; exact Or.inl ⟨n, h1, h2, rfl, rfl⟩
  · rw [if_neg c]; exact Or.inr ⟨c, rfl, rfl⟩
theorem other_c {A : Ab} {k m : St} (hG : WFg A) (hR : RM A m) (hK : RK A sI (A 0 4) k) (v : Int32) : (∃ n, 1 ≤ n ∧ n < A 0 2 ∧ v = nI n ∧ M_isOther m v = some 1 ∧ K_isMadeFormat k v = some 1) ∨ (M_isOther m v = some 0 ∧ K_isMadeFormat k v = some 0) := by
  have hN := hG.1.1.1
  unfold M_isOther K_isMadeFormat
  rcases format_c hG hR hK v with ⟨n, h1, h2, h3, h4⟩ | ⟨h1, h2, h3⟩
  · rw [h3, h4, b1_some]
    by_cases c : n = 0
    · rw [h2, c, if_pos (by decide), if_pos (by decide)]
      exact Or.inr ⟨rfl, rfl⟩
    · rw [h2, if_neg (fun z => by rw [li0] at z; have := (nI_leI (by omega) (by omega)).mp z; omega), if_neg (fun z => c ((nI_z (by omega)).mp z)), if_neg (by decide)]
      exact Or.inl ⟨n, by omega, h1, rfl, rfl, rfl⟩
  · right
    rw [h2, h3, b1_some, if_pos rfl]
    refine ⟨?_, ?_⟩ <;> split <;> rfl
theorem level_c {A : Ab} {k m : St} (hG : WFg A) (hR : RM A m) (hK : RK A sI (A 0 4) k) (v : Int32) : (∃ n, 1 ≤ n ∧ n ≤ A 0 3 ∧ v = nI n ∧ M_isLevel m v = some 1 ∧ K_isLevel k v = some 1) ∨ (M_isLevel m v = some 0 ∧ K_isLevel k v = some 0) := by
  have hN := hG.1.1.1
  have hk : K_isLevel k v = some (if 1 ≤ v.toInt ∧ v.toInt ≤ A 0 3 then 1 else 0) := by
    unfold K_isLevel
    rw [hK.n3, li1]
    by_cases c1 : v < nI 1
    · have := (v_lt_nI v (by omega)).mp c1
      rw [if_pos c1, if_neg (by omega)]
    · have h1 : ¬ v.toInt < ((1 : Nat) : Int) := fun z => c1 ((v_lt_nI v (by omega)).mpr z)
      rw [if_neg c1]
      by_cases c2 : nI (A 0 3) < v
      · have := (nI_lt_v v (by omega)).mp c2
        rw [if_pos c2, if_neg (by omega)]
      · have h2 : ¬ (A 0 3 : Int) < v.toInt := fun z => c2 ((nI_lt_v v (by omega)).mpr z)
        rw [if_neg c2, if_pos (by omega)]
  rw [M_isLevel_e hG.1.1 hR v, hk]
  by_cases c : 1 ≤ v.toInt ∧ v.toInt ≤ A 0 3
  · obtain ⟨n, h1, h2⟩ := arg_in (v := v) (n := A 0 3 + 1) (by omega) (by omega)
    have : 1 ≤ n := by
      rw [h2, nI_toInt (by omega)] at c; omega
    rw [if_pos c]; exact Or.inl ⟨n, this, by omega, h2, rfl, rfl⟩
  · rw [if_neg c]; exact Or.inr ⟨rfl, rfl⟩
theorem added_c {A : Ab} {k m : St} (hG : WFg A) (hR : RM A m) (hK : RK A sI (A 0 4) k) (v : Int32) : (∃ r, r < A 0 4 ∧ v = nI r ∧ M_in m v.toInt64 0 ((nI (A 0 4) - 1)).toInt64 = some 1 ∧ K_isAdded k v = some 1) ∨ (M_in m v.toInt64 0 ((nI (A 0 4) - 1)).toInt64 = some 0 ∧ K_isAdded k v = some 0) := by
  have h4 := hG.2.1.1
  have hk : K_isAdded k v = some (if 0 ≤ v.toInt ∧ v.toInt < A 0 4 then 1 else 0) := by
    unfold K_isAdded
    rw [hK.rcv, K_in v (by omega)]
    split <;> rfl
  rw [M_valid m v (by omega), hk]
  by_cases c : 0 ≤ v.toInt ∧ v.toInt < A 0 4
  · obtain ⟨n, h1, h2⟩ := arg_in (by omega) c
    rw [if_pos c]; exact Or.inl ⟨n, h1, h2, rfl, rfl⟩
  · rw [if_neg c]; exact Or.inr ⟨rfl, rfl⟩
theorem recv_c {A : Ab} {k m : St} (hG : WFg A) (hR : RM A m) (hK : RK A sI (A 0 4) k) (v : Int32) : (∃ r, r < A 0 4 ∧ A 15 r = 0 ∧ v = nI r ∧ M_isReceiver m v = some 1 ∧ K_isPresent k v = some 1) ∨ (M_isReceiver m v = some 0 ∧ K_isPresent k v = some 0) := by
  have h4 := hG.2.1.1
  unfold M_isReceiver K_isPresent
  rw [rd_at 96 li96 (by omega) (by omega), b1_some, hR.rcv]
  rcases added_c hG hR hK v with ⟨r, h1, h2, h3, h5⟩ | ⟨h3, h5⟩
  · rw [h3, h5, b1_some, b1_some, if_neg (by decide), if_neg (by decide), h2, show M_of m (nI r) 4 = some (nI (A 15 r)) from M_of_e hR (by omega) (w := 4) (by omega), b1_some, rd_n (by omega) (by omega), b1_some, show gt k 24 r = nI (A 15 r) from hK.lf h1]
    have hb := (hG.2.1.2.1 r h1).2.2.2.2
    by_cases c : A 15 r = 0
    · rw [c, if_pos nI_0]; exact Or.inl ⟨r, h1, c, rfl, rfl, rfl⟩
    · rw [if_neg (fun z => c ((nI_z (by omega)).mp z))]
      exact Or.inr ⟨rfl, rfl⟩
  · rw [h3, h5, b1_some, b1_some, if_pos rfl, if_pos rfl]
    exact Or.inr ⟨rfl, rfl⟩
/-- a new receiver, in place x -/
def enr (A : Ab) (x n f w : Nat) : Ab := up2 (up2 (up2 (up2 (up2 A 11 x n) 12 x f) 13 x w) 14 x 0) 15 x 0
theorem enr_ne {A : Ab} {x n f w a j : Nat} (h : a < 11 ∨ 15 < a ∨ j ≠ x) : enr A x n f w a j = A a j := by
  unfold enr
  rw [up2_ne (by omega), up2_ne (by omega), up2_ne (by omega), up2_ne (by omega), up2_ne (by omega)]
theorem enr_at {A : Ab} {x n f w : Nat} : enr A x n f w 11 x = n ∧ enr A x n f w 12 x = f ∧ enr A x n f w 13 x = w ∧ enr A x n f w 14 x = 0 ∧ enr A x n f w 15 x = 0 := by
  unfold enr
  refine ⟨?_, ?_, ?_, ?_, ?_⟩
  · rw [up2_ne (by omega), up2_ne (by omega), up2_ne (by omega), up2_ne (by omega), up2_same]
  · rw [up2_ne (by omega), up2_ne (by omega), up2_ne (by omega), up2_same]
  · rw [up2_ne (by omega), up2_ne (by omega), up2_same]
  · rw [up2_ne (by omega), up2_same]
  · rw [up2_same]
theorem M_begins_e {A : Ab} {m : St} (hs : WFs A) (hR : RM A m) {x n f w : Nat} (hx : x < 21) : ∃ m2, M_begins m (nI x) (nI n) (nI f) (nI w) = some m2 ∧ RM (enr A x n f w) m2 ∧ ∀ j, j ≠ 4 → m2.1 j = m.1 j := by
  unfold M_begins
  have es : ∀ (B : Ab) (a j v : Nat), 11 ≤ a → WFs B → WFs (up2 B a j v) := fun B a j v ha h => WFs_es (A := B) (fun a2 j2 x _ => up2_ne (by omega)) h
  rw [show M_set m (nI x) 0 (nI n) = some (st m 4 (97 + 5 * x + 0) (nI n)) from M_set_e _ hx (w := 0) (by omega), b1_some]
  have r1 := hR.lvl hs (r := x) (w := 0) n hx (by omega)
  have s1 := es A 11 x n (by omega) hs
  rw [show M_set _ (nI x) 1 (nI f) = some (st (st m 4 (97 + 5 * x + 0) (nI n)) 4 (97 + 5 * x + 1) (nI f)) from M_set_e _ hx (w := 1) (by omega), b1_some]
  have r2 := RM.lvl s1 r1 (r := x) (w := 1) f hx (by omega)
  have s2 := es _ 12 x f (by omega) s1
  rw [show M_set _ (nI x) 2 (nI w) = some (st (st (st m 4 (97 + 5 * x + 0) (nI n)) 4 (97 + 5 * x + 1) (nI f)) 4 (97 + 5 * x + 2) (nI w)) from M_set_e _ hx (w := 2) (by omega), b1_some]
  have r3 := RM.lvl s2 r2 (r := x) (w := 2) w hx (by omega)
  have s3 := es _ 13 x w (by omega) s2
  rw [M_set3 _ hx, b1_some]
  have r4 := RM.lvl s3 r3 (r := x) (w := 3) 0 hx (by omega)
  have s4 := es _ 14 x 0 (by omega) s3
  rw [show M_set _ (nI x) 4 0 = some (st (st (st (st (st m 4 (97 + 5 * x + 0) (nI n)) 4 (97 + 5 * x + 1) (nI f)) 4 (97 + 5 * x + 2) (nI w)) 4 (97 + 5 * x + 3) 0) 4 (97 + 5 * x + 4) 0) from M_set_e _ hx (w := 4) (by omega), b1_some]
  have r5 := RM.lvl s4 r4 (r := x) (w := 4) 0 hx (by omega)
  exact ⟨_, rfl, r5, fun j hj => by rw [st_row_ne hj, st_row_ne hj, st_row_ne hj, st_row_ne hj, st_row_ne hj]⟩
def sE (R x : Nat) (q : Nat) : Nat := if q = R then x else q
theorem Ss_enrol_e {A : Ab} {k : St} {R : Nat} (hK : RK A sI R k) (hR : R ≤ 20) {x n f w : Nat} (hx : R ≤ x) : ∃ k2, Ss_enrol k (nI n) (nI f) (nI w) = some (nI R, k2) ∧ RK (enr A x n f w) (sE R x) (R + 1) k2 ∧ ∀ j, j < 19 ∨ 25 ≤ j → k2.1 j = k.1 j := by
  unfold Ss_enrol
  rw [hK.rcv, li20, imin_n (by omega) (by omega), show min R 20 = R by omega, lt_e, nar0, wr_n (by omega) (by omega), b1_some, wr_n (by omega) (by omega), b1_some, wr_n (by omega) (by omega), b1_some, wr_n (by omega) (by omega), b1_some, wr_n (by omega) (by omega), b1_some, lt_e, nI_1]
  obtain ⟨k2, hk2⟩ : ∃ k2, k2 = st (st (st (st (st (st k 20 R (nI n)) 21 R (nI f)) 22 R (nI w)) 23 R 0) 24 R 0) 19 0 (nI (R + 1)) := ⟨_, rfl⟩
  rw [← hk2]
  have g : ∀ j i, j < 19 ∨ 25 ≤ j → gt k2 j i = gt k j i := fun j i hj => by
    rw [hk2, gt_st_k (by omega), gt_st_k (by omega), gt_st_k (by omega), gt_st_k (by omega), gt_st_k (by omega), gt_st_k (by omega)]
  have gr : ∀ j, j < 19 ∨ 25 ≤ j → k2.1 j = k.1 j := fun j hj => by
    rw [hk2, st_row_ne (by omega), st_row_ne (by omega), st_row_ne (by omega), st_row_ne (by omega), st_row_ne (by omega), st_row_ne (by omega)]
  refine ⟨k2, rfl, ⟨RKs_es (A := A) (fun a j y _ => enr_ne (by omega)) (RKs_row (fun j hj => gr j (by omega)) hK.1), ?_⟩, gr⟩
  obtain ⟨a1, a2, a3, a4, a5, a6, a7⟩ := hK.2
  obtain ⟨e1, e2, e3, e4, e5⟩ := enr_at (A := A) (x := x) (n := n) (f := f) (w := w)
  have g24 : ∀ i, gt k2 24 i = if i = R then 0 else gt k 24 i := fun i => by
    rw [hk2, gt_st_k (by omega), gt_st]
    by_cases d : i = R
    · rw [if_pos ⟨rfl, d⟩, if_pos d]
    · rw [if_neg (fun z => d z.2), if_neg d, gt_st_k (by omega), gt_st_k (by omega), gt_st_k (by omega), gt_st_k (by omega)]
  refine ⟨by rw [hk2]; exact gt_st_same, fun r hr => ?_, fun j hj => ?_, fun n2 f2 hn2 hf2 => ?_, fun n2 hn2 => ?_, fun i hi => ?_, fun i hi => by rw [g (19 + 7) i (by omega)]; exact a7 i hi⟩
  · by_cases d : r = R
    · subst d
      have hs : sE r x r = x := if_pos rfl
      rw [hs, e1, e2, e3, e4, e5]
      refine ⟨?_, ?_, ?_, ?_, ?_⟩
      · rw [hk2, gt_st_k (by omega), gt_st_k (by omega), gt_st_k (by omega), gt_st_k (by omega), gt_st_k (by omega)]; exact gt_st_same
      · rw [hk2, gt_st_k (by omega), gt_st_k (by omega), gt_st_k (by omega), gt_st_k (by omega)]; exact gt_st_same
      · rw [hk2, gt_st_k (by omega), gt_st_k (by omega), gt_st_k (by omega)]; exact gt_st_same
      · rw [hk2, gt_st_k (by omega), gt_st_k (by omega)]; exact gt_st_same
      · rw [hk2, gt_st_k (by omega)]; exact gt_st_same
    · have hs : sE R x r = r := if_neg d
      rw [hs, enr_ne (by omega), enr_ne (by omega), enr_ne (by omega), enr_ne (by omega), enr_ne (by omega)]
      have q := a2 r (by omega)
      refine ⟨?_, ?_, ?_, ?_, ?_⟩
      · rw [hk2, gt_st_k (by omega), gt_st_k (by omega), gt_st_k (by omega), gt_st_k (by omega), gt_st_k (by omega), gt_st_i d]; exact q.1
      · rw [hk2, gt_st_k (by omega), gt_st_k (by omega), gt_st_k (by omega), gt_st_k (by omega), gt_st_i d, gt_st_k (by omega)]; exact q.2.1
      · rw [hk2, gt_st_k (by omega), gt_st_k (by omega), gt_st_k (by omega), gt_st_i d, gt_st_k (by omega), gt_st_k (by omega)]; exact q.2.2.1
      · rw [hk2, gt_st_k (by omega), gt_st_k (by omega), gt_st_i d, gt_st_k (by omega), gt_st_k (by omega), gt_st_k (by omega)]; exact q.2.2.2.1
      · rw [show gt k2 (19 + 5) r = gt k 24 r by rw [g24 r, if_neg d]]; exact q.2.2.2.2
  · rw [enr_ne (by omega)] at hj
    rw [g (19 + 6) j (by omega), g (19 + 7) j (by omega), enr_ne (by omega), enr_ne (by omega)]
    exact a3 j hj
  · rw [g (19 + 8) _ (by omega), enr_ne (by omega)]; exact a4 n2 f2 hn2 hf2
  · rw [g (19 + 9) n2 (by omega), g (19 + 10) n2 (by omega), enr_ne (by omega)]; exact a5 n2 hn2
  · rw [show gt k2 (19 + 5) i = if i = R then 0 else gt k 24 i from g24 i]
    split
    · exact Or.inl rfl
    · exact a6 i hi
/-- a new receiver leaves the rest whole -/
theorem enr_wf {A : Ab} (hA : WF A) {x n f w : Nat} : WF (enr A x n f w) := by
  have e : ∀ a j, a < 11 → enr A x n f w a j = A a j := fun a j h => enr_ne (by omega)
  have hec : Ec A (enr A x n f w) := fun a j h _ => e a j (by omega)
  refine ⟨WFs_es hec.s hA.1, ?_, WFc_ec hec hA.2.2.1, fun r hr hl => ?_⟩
  · obtain ⟨t1, t2, t3, g, t4⟩ := hA.2.1
    have e10 : ∀ j, enr A x n f w 10 j = A 10 j := fun j => e 10 j (by omega)
    refine ⟨by rw [e10]; exact t1, fun n hn h1 => by rw [e10]; exact t2 n hn h1, fun n hn h2 => ?_, g, fun n hn h2 => ?_⟩
    · rw [e10] at h2 ⊢
      obtain ⟨x1, x2, x3, l, x4⟩ := t3 n hn h2
      rw [e10, hec.s 0 0 (by omega) (by omega)]
      exact ⟨x1, x2, x3, l, (Lk_es hec.s).mpr x4⟩
    · rw [e10] at h2 ⊢; exact t4 n hn h2
  · by_cases d : r = x
    · subst d
      rw [(enr_at (A := A) (x := r)).2.2.2.1] at hl; omega
    · rw [enr_ne (by omega)] at hl
      rw [enr_ne (by omega), enr_ne (by omega), enr_ne (by omega), enr_ne (by omega), enr_ne (by omega), enr_ne (by omega), enr_ne (by omega)]
      exact hA.2.2.2 r hr hl
