/-! ===== PHASE B: counts ===== -/
theorem sm_congr {g g2 : Nat → Nat} : ∀ n, (∀ i, i < n → g i = g2 i) → sm g n = sm g2 n := by
  intro n
  induction n with
  | zero => intro _; rfl
  | succ n ih => intro h; rw [sm, sm, ih (fun i hi => h i (by omega)), h n (by omega)]
theorem ite01_le {P : Prop} [Decidable P] : (if P then 1 else 0) ≤ (1 : Nat) := by
  by_cases c : P
  · rw [if_pos c]; exact Nat.le_refl 1
  · rw [if_neg c]; exact Nat.zero_le 1
def bcA (p : Nat) : Nat := p - ((p >>> 1) &&& 1431655765)
def bcB (w : Nat) : Nat := (w &&& 858993459) + ((w >>> 2) &&& 858993459)
def bcC (w : Nat) : Nat := (w + (w >>> 4)) &&& 252645135
def bcD (w : Nat) : Nat := w + (w >>> 8)
def bcE (w : Nat) : Nat := w + (w >>> 16)
def pop8 (b : Nat) : Nat := b % 2 + b / 2 % 2 + b / 4 % 2 + b / 8 % 2 + b / 16 % 2 + b / 32 % 2 + b / 64 % 2 + b / 128 % 2
def pop (p : Nat) : Nat := pop8 (p / 256) + pop8 (p % 256)
theorem land_pow (i x y M N : Nat) (hy : y < 2 ^ i) (hN : N < 2 ^ i) : (2 ^ i * x + y) &&& (2 ^ i * M + N) = 2 ^ i * (x &&& M) + (y &&& N) := by
  apply Nat.eq_of_testBit_eq
  intro j
  rw [Nat.testBit_and, Nat.testBit_two_pow_mul_add x hy, Nat.testBit_two_pow_mul_add M hN, Nat.testBit_two_pow_mul_add (x &&& M) (Nat.and_lt_two_pow y hN)]
  split <;> rw [Nat.testBit_and]
theorem land8 (x y M N : Nat) (hy : y < 256) (hN : N < 256) : (256 * x + y) &&& (256 * M + N) = 256 * (x &&& M) + (y &&& N) := land_pow 8 x y M N hy hN
def al (b : Nat) : Nat := b - ((b / 2) &&& 85)
def be (y : Nat) : Nat := (y &&& 51) + ((y / 4) &&& 51)
def ga (y : Nat) : Nat := (y + y / 16) % 16
theorem al_1 : ∀ b, b < 256 → ∀ s, s < 2 → ((128 * s + b / 2) &&& 85) = ((b / 2) &&& 85) := by decide +kernel
theorem al_2 : ∀ b, b < 256 → ((b / 2) &&& 85) ≤ b ∧ ((b / 2) &&& 5592405) = ((b / 2) &&& 85) ∧ al b < 256 := by decide +kernel
theorem be_1 : ∀ b, b < 256 → ∀ s, s < 4 → ((64 * s + b / 4) &&& 51) = ((b / 4) &&& 51) := by decide +kernel
theorem be_2 : ∀ b, b < 256 → (b &&& 3355443) = (b &&& 51) ∧ ((b / 4) &&& 3355443) = ((b / 4) &&& 51) := by decide +kernel
theorem ga_1 : ∀ y, y < 69 → ∀ s, s < 5 → ((y + (16 * s + y / 16)) &&& 15) = ga y := by decide +kernel
theorem ga_2 : ∀ y, y < 69 → ((y + y / 16) &&& 986895) = ga y := by decide +kernel
theorem bga : ∀ b, b < 256 → be (al b) < 69 ∧ be (al b) % 16 < 5 ∧ ga (be (al b)) = pop8 b ∧ pop8 b ≤ 8 := by decide +kernel
theorem sh_e (p i : Nat) : p >>> i = p / 2 ^ i := Nat.shiftRight_eq_div_pow p i
theorem bcA_e {a b : Nat} (ha : a < 256) (hb : b < 256) : ((256 * a + b) >>> 1 &&& 1431655765) ≤ 256 * a + b ∧ bcA (256 * a + b) = 256 * al a + al b := by
  obtain ⟨x1, x2, _⟩ := al_2 a ha
  obtain ⟨y1, _, _⟩ := al_2 b hb
  have e : ((256 * a + b) >>> 1 &&& 1431655765) = 256 * ((a / 2) &&& 85) + ((b / 2) &&& 85) := by
    rw [sh_e, show (256 * a + b) / 2 ^ 1 = 256 * (a / 2) + (128 * (a % 2) + b / 2) by omega, show (1431655765 : Nat) = 256 * 5592405 + 85 from rfl, land8 _ _ _ _ (by omega) (by omega), x2, al_1 b hb (a % 2) (by omega)]
  unfold bcA al
  rw [e]
  omega
theorem bcB_e {x y : Nat} (hx : x < 256) (hy : y < 256) : bcB (256 * x + y) = 256 * be x + be y := by
  obtain ⟨x1, x2⟩ := be_2 x hx
  have e1 : ((256 * x + y) &&& 858993459) = 256 * (x &&& 51) + (y &&& 51) := by
    rw [show (858993459 : Nat) = 256 * 3355443 + 51 from rfl, land8 _ _ _ _ hy (by omega), x1]
  have e2 : ((256 * x + y) >>> 2 &&& 858993459) = 256 * ((x / 4) &&& 51) + ((y / 4) &&& 51) := by
    rw [sh_e, show (256 * x + y) / 2 ^ 2 = 256 * (x / 4) + (64 * (x % 4) + y / 4) by omega, show (858993459 : Nat) = 256 * 3355443 + 51 from rfl, land8 _ _ _ _ (by omega) (by omega), x2, be_1 y hy (x % 4) (by omega)]
  unfold bcB be
  rw [e1, e2]
  omega
theorem bcC_e {x y : Nat} (hx : x < 69) (hx2 : x % 16 < 5) (hy : y < 69) : bcC (256 * x + y) = 256 * ga x + ga y := by
  unfold bcC
  rw [sh_e, show 256 * x + y + (256 * x + y) / 2 ^ 4 = 256 * (x + x / 16) + (y + (16 * (x % 16) + y / 16)) by omega, show (252645135 : Nat) = 256 * 986895 + 15 from rfl, land8 _ _ _ _ (by omega) (by omega), ga_2 x hx, ga_1 y hy (x % 16) hx2]
theorem bc_ok {p : Nat} (h : p < 65536) : ((p >>> 1) &&& 1431655765) ≤ p ∧ bcA p < 65536 ∧ bcB (bcA p) < 65536 ∧ bcC (bcB (bcA p)) < 65536 ∧ bcD (bcC (bcB (bcA p))) < 65536 ∧ (bcE (bcD (bcC (bcB (bcA p)))) &&& 63) = pop p := by
  obtain ⟨a, ha⟩ : ∃ a, a = p / 256 := ⟨_, rfl⟩
  obtain ⟨b, hb⟩ : ∃ b, b = p % 256 := ⟨_, rfl⟩
  have hp : p = 256 * a + b := by omega
  have a256 : a < 256 := by omega
  have b256 : b < 256 := by omega
  obtain ⟨a1, a2⟩ := bcA_e a256 b256
  have ea := (al_2 a a256).2.2
  have eb := (al_2 b b256).2.2
  have b1' := bcB_e ea eb
  obtain ⟨g1, g2, g3, g4⟩ := bga a a256
  obtain ⟨h1, h2, h3, h4⟩ := bga b b256
  have c1 := bcC_e g1 g2 h1
  rw [g3, h3] at c1
  have d1 : bcD (256 * pop8 a + pop8 b) = 256 * pop8 a + pop8 b + pop8 a := by
    unfold bcD; rw [sh_e]; omega
  have e1 : bcE (256 * pop8 a + pop8 b + pop8 a) = 256 * pop8 a + pop8 b + pop8 a := by
    unfold bcE; rw [sh_e]; omega
  unfold pop
  rw [← ha, ← hb, hp, a2, b1', c1, d1, e1]
  refine ⟨a1, by omega, by omega, by omega, by omega, ?_⟩
  rw [show (63 : Nat) = 2 ^ 6 - 1 from rfl, Nat.and_two_pow_sub_one_eq_mod]
  omega
theorem nx_and (a b : Nat) : nI a &&& nI b = nI (a &&& b) := by
  apply Int32.toBitVec_inj.1
  show BitVec.ofNat 32 a &&& BitVec.ofNat 32 b = BitVec.ofNat 32 (a &&& b)
  apply BitVec.eq_of_getLsbD_eq
  intro i hi
  simp [hi]
theorem nx_cnt : ∀ j : Fin 32, (UInt32.ofNat j.val &&& Int32.toUInt32 31).toNat % 32 = j.val := by decide +kernel
theorem nx_ush {k j : Nat} (hk : k < 65536) (hj : j < 32) : ((nI k).toUInt32 >>> ((nI j).toUInt32 &&& Int32.toUInt32 31)).toInt32 = nI (k >>> j) := by
  have hs : k >>> j ≤ k := by
    rw [Nat.shiftRight_eq_div_pow]
    exact Nat.div_le_self _ _
  have e2 : UInt32.ofNat k >>> (UInt32.ofNat j &&& Int32.toUInt32 31) = UInt32.ofNat (k >>> j) := by
    apply UInt32.toNat_inj.1
    have h1 : (UInt32.ofNat k).toNat = k := Nat.mod_eq_of_lt (by omega)
    have h2 : (UInt32.ofNat (k >>> j)).toNat = k >>> j := Nat.mod_eq_of_lt (by omega)
    rw [UInt32.toNat_shiftRight, nx_cnt ⟨j, hj⟩, h1, h2]
  show (UInt32.ofNat k >>> (UInt32.ofNat j &&& Int32.toUInt32 31)).toInt32 = _
  rw [e2]
  rfl
theorem bitCount_nI (q : St) {p : Nat} (h : p < 65536) : J_bitCount q (nI p) = some (nI (pop p)) := by
  obtain ⟨h1, h2, h3, h4, h5, h6⟩ := bc_ok h
  unfold J_bitCount
  rw [lt_e, lt_e, lt_e, lt_e, lt_e, show (1 : Int32) = nI 1 from rfl, show (2 : Int32) = nI 2 from rfl, show (4 : Int32) = nI 4 from rfl, show (8 : Int32) = nI 8 from rfl, show (16 : Int32) = nI 16 from rfl, show (63 : Int32) = nI 63 from rfl, show (1431655765 : Int32) = nI 1431655765 from rfl, show (858993459 : Int32) = nI 858993459 from rfl, show (252645135 : Int32) = nI 252645135 from rfl]
  rw [nx_ush h (by omega), nx_and, sub_le h1, show p - ((p >>> 1) &&& 1431655765) = bcA p from rfl]
  rw [nx_and, nx_ush h2 (by omega), nx_and, nI_add, show (bcA p &&& 858993459) + ((bcA p >>> 2) &&& 858993459) = bcB (bcA p) from rfl]
  rw [nx_ush h3 (by omega), nI_add, nx_and, show (bcB (bcA p) + bcB (bcA p) >>> 4) &&& 252645135 = bcC (bcB (bcA p)) from rfl]
  rw [nx_ush h4 (by omega), nI_add, show bcC (bcB (bcA p)) + bcC (bcB (bcA p)) >>> 8 = bcD (bcC (bcB (bcA p))) from rfl]
  rw [nx_ush h5 (by omega), nI_add, nx_and, show bcD (bcC (bcB (bcA p))) + bcD (bcC (bcB (bcA p))) >>> 16 = bcE (bcD (bcC (bcB (bcA p)))) from rfl, h6]
theorem bt_nI {p i : Nat} (hi : i < 32) : bt (nI p) i = true ↔ (p >>> i) % 2 = 1 := by
  show (BitVec.ofNat 32 p).getLsbD i = true ↔ _
  rw [BitVec.getLsbD_ofNat, decide_eq_true hi, Bool.true_and, Nat.testBit_eq_decide_div_mod_eq, decide_eq_true_iff, Nat.shiftRight_eq_div_pow]
theorem low16 {v : Int32} (h : ∀ i, 16 ≤ i → i < 32 → bt v i = false) : ∃ p, p < 65536 ∧ v = nI p := by
  have e : v &&& 65535 = v := b_ext fun i hi => by
    rw [b_and, b_65535]
    by_cases c : i < 16
    · rw [decide_eq_true c, Bool.and_true]
    · rw [h i (by omega) hi, Bool.false_and]
  refine ⟨v.toBitVec.toNat % 65536, Nat.mod_lt _ (by omega), ?_⟩
  have hv : v = nI v.toBitVec.toNat := by
    apply Int32.toBitVec_inj.1
    show v.toBitVec = BitVec.ofNat 32 v.toBitVec.toNat
    rw [BitVec.ofNat_toNat, BitVec.setWidth_eq]
  have h2 : nI v.toBitVec.toNat &&& 65535 = nI (v.toBitVec.toNat % 65536) := by
    rw [show (65535 : Int32) = nI 65535 from rfl, nx_and, show (65535 : Nat) = 2 ^ 16 - 1 from rfl, Nat.and_two_pow_sub_one_eq_mod]
  rw [← h2, ← hv, e]
/-- how many bits -/
theorem bitCount_e (q : St) {v : Int32} (h : ∀ i, 16 ≤ i → i < 32 → bt v i = false) : J_bitCount q v = some (nI (sm (fun i => if bt v i = true then 1 else 0) 16)) := by
  obtain ⟨p, hp, rfl⟩ := low16 h
  rw [bitCount_nI q hp]
  have hb : ∀ i, i < 16 → (if bt (nI p) i = true then 1 else 0) = p / 2 ^ i % 2 := fun i hi => by
    have := bt_nI (p := p) (i := i) (by omega)
    rw [sh_e] at this
    by_cases c : bt (nI p) i = true
    · rw [if_pos c]; exact (this.mp c).symm
    · rw [if_neg c]
      have h2 : ¬ p / 2 ^ i % 2 = 1 := fun z => c (this.mpr z)
      omega
  have : pop p = sm (fun i => if bt (nI p) i = true then 1 else 0) 16 := by
    rw [sm_congr 16 (g2 := fun i => p / 2 ^ i % 2) hb]
    unfold pop pop8
    simp only [sm]
    have e : ∀ j, (p % 256) / 2 ^ j = p % 256 / 2 ^ j := fun _ => rfl
    omega
  rw [this]
theorem sm_bd {g : Nat → Nat} {b : Nat} : ∀ n, (∀ j, j < n → g j ≤ b) → sm g n ≤ b * n := fun n h => sm_le n h
theorem Pth_rf {A : Ab} (n : Nat) : Pth A n n := ⟨0, Nat.zero_le _, rfl⟩
theorem below25 {A : Ab} {m : St} (hG : WFg A) (hR : RM A m) {t : Nat} (ht : t < A 0 0) : ∀ (fu x : Nat), x ≤ A 0 0 → A 0 0 < x + fu → M_below_L25 m fu (nI t) (nI (sm (fun c => if c ≠ t ∧ fl A t c = 1 then 1 else 0) x)) (nI x) = some (nI (sm (fun c => if c ≠ t ∧ fl A t c = 1 then 1 else 0) (A 0 0))) := by
  have hN := hG.1.1.1
  intro fu
  induction fu with
  | zero => intro x h1 h2; omega
  | succ fu ih =>
    intro x h1 h2
    rw [M_below_L25]; unfold M_below_B25
    rw [rd_at 0 li0 (by omega) (by omega), b1_some, hR.g0]
    simp (disch := omega) only [b1_some, b2_some, lt_e, rd_n, wr_n, nI_add, pk_mul, nI_leI, nI_ltI, nI_eq, nI_1, Int32.add_zero]
    by_cases e : x < A 0 0
    · have nx := ih (x + 1) (by omega) (by omega)
      have no : ¬ (x ≠ t ∧ fl A t x = 1) → M_below_L25 m fu (nI t) (nI (sm (fun c => if c ≠ t ∧ fl A t c = 1 then 1 else 0) x)) (nI (x + 1)) = some (nI (sm (fun c => if c ≠ t ∧ fl A t c = 1 then 1 else 0) (A 0 0))) := fun z => by
        rw [sm, if_neg z, Nat.add_zero] at nx; exact nx
      rw [if_neg (by omega)]
      by_cases c1 : x = t
      · rw [if_pos c1]; exact no (fun z => z.1 c1)
      · rw [if_neg c1, M_isIn_e (par_bd hG.1.1 hG.1.2.1) hR (by omega), b1_some]
        by_cases c2 : A 10 x = 0
        · rw [if_pos c2, if_pos rfl]; exact no (fun z => by have := ((fl_iff hG.1 (by omega)).mp z.2).1; exact this c2)
        · rw [if_neg c2, if_neg (by decide), M_isBelow_e hG.1.1 hG.1.2.1 hR ⟨by omega, c2⟩ (by omega), b1_some]
          have hb := bw_iff hG.1 (t := t) x ⟨by omega, c2⟩
          by_cases c3 : bw A t x = 0
          · rw [c3, if_pos nI_0]
            exact no (fun z => by have := hb.1.mpr ((fl_iff hG.1 (by omega)).mp z.2).2; omega)
          · have hf : fl A t x = 1 := if_pos ⟨c2, by omega⟩
            rw [if_neg (fun z => c3 ((nI_z (by omega)).mp z))]
            rw [sm, if_pos ⟨c1, hf⟩] at nx; exact nx
    · rw [if_pos (by omega)]
      have : x = A 0 0 := by omega
      subst this
      rfl
theorem sub_bits {A : Ab} (hG : WFg A) {t : Nat} {w : Int32} (hw : ∀ x, x < 32 → (bt w x = true ↔ x < A 0 0 ∧ A 10 x ≠ 0 ∧ Pth A x t)) (q : St) : J_bitCount q w = some (nI (sm (fun x => fl A t x) (A 0 0))) := by
  have hN := hG.1.1.1
  rw [bitCount_e q (fun i h1 h2 => by
    cases hb : bt w i with
    | false => rfl
    | true => have := (hw i h2).mp hb; omega)]
  have e1 : sm (fun i => if bt w i = true then 1 else 0) 16 = sm (fun i => if bt w i = true then 1 else 0) (A 0 0) := sm_cut 16 (by omega) (fun i h1 h2 => if_neg (fun z => by have := (hw i (by omega)).mp z; omega))
  rw [e1, sm_congr (A 0 0) (g2 := fun x => fl A t x) (fun i hi => ?_)]
  by_cases c : bt w i = true
  · have := (hw i (by omega)).mp c
    rw [if_pos c]; exact ((fl_iff hG.1 (by omega)).mpr this.2).symm
  · rw [if_neg c]
    have h1 : ¬ fl A t i = 1 := fun z => c ((hw i (by omega)).mpr ⟨hi, (fl_iff hG.1 (by omega)).mp z⟩)
    have := fl_le (A := A) (t := t) (n := i)
    show 0 = fl A t i
    omega
theorem sp_below : Sp_below Inv := by
  intro k m v1 hI
  obtain ⟨A, hG, hR, hK, hT, hH⟩ := hI
  have hN := hG.1.1.1
  unfold K_below M_below
  rcases node_c hG hR hK v1 with ⟨n, a1, a2, a3, a4⟩ | ⟨a3, a4⟩
  · simp only [b1_some, b2_some, lt_e, o10, eq_self, ↓reduceIte, a3, a4]
    rw [a2, rd_n (by omega) (by omega), b1_some, hK.tin (by omega), M_isIn_e (par_bd hG.1.1 hG.1.2.1) hR (by omega), b1_some]
    by_cases c : A 10 n = 0
    · rw [if_pos c, if_pos rfl, if_pos rfl]; exact ⟨-2, rfl, rfl⟩
    · rw [if_neg c, if_neg (by decide), if_neg (by decide)]
      obtain ⟨w, w1, w2⟩ := Sp_subtree_e hG.1 hK (t := n) (by omega)
      rw [w1, b1_some, sub_bits hG w2, b1_some]
      have hM := below25 hG hR a1 FU 0 (by omega) (by rw [FU_e]; omega)
      have hM : M_below_L25 m FU (nI n) 0 0 = some (nI (sm (fun c => if c ≠ n ∧ fl A n c = 1 then 1 else 0) (A 0 0))) := hM
      rw [hM]
      have hfl : fl A n n = 1 := (fl_iff hG.1 (by omega)).mpr ⟨c, Pth_rf n⟩
      have hs := sm_low (g := fun x => fl A n x) (g2 := fun c => if c ≠ n ∧ fl A n c = 1 then 1 else 0) (r := n) (fun j hj => by
        have := fl_le (A := A) (t := n) (n := j)
        show (if j ≠ n ∧ fl A n j = 1 then 1 else 0) = fl A n j
        by_cases d : fl A n j = 1
        · rw [if_pos ⟨hj, d⟩, d]
        · rw [if_neg (fun z => d z.2)]; omega) (by
        show (if n ≠ n ∧ fl A n n = 1 then 1 else 0) + 1 = fl A n n
        rw [if_neg (fun z => z.1 rfl), hfl]) (A 0 0)
      rw [if_pos a1] at hs
      rw [← hs, nI_m1]
      exact ⟨_, rfl, rfl⟩
  · simp only [b1_some, b2_some, lt_e, o10, eq_self, ↓reduceIte, a3, a4]
    exact ⟨-1, rfl, rfl⟩
/-- counting by a map that is one to one -/
theorem cnt_bij {gp gq f : Nat → Nat} {L : Nat} : ∀ N, (∀ n, n < N → gp n ≤ 1) → (∀ n n2, n < N → n2 < N → gp n = 1 → gp n2 = 1 → f n = f n2 → n = n2) → (∀ n, n < N → gp n = 1 → f n < L) → sm (fun l => mx (fun n => if gp n = 1 ∧ f n = l then 1 else 0) N) L = sm gp N := by
  intro N
  induction N with
  | zero =>
    intro _ _ _
    have : ∀ L, sm (fun l => mx (fun n => if gp n = 1 ∧ f n = l then 1 else 0) 0) L = 0 := by
      intro L
      induction L with
      | zero => rfl
      | succ L ih => rw [sm, ih]; rfl
    rw [this]; rfl
  | succ N ih =>
    intro h1 h2 h3
    have hi := ih (fun n hn => h1 n (by omega)) (fun n n2 a b => h2 n n2 (by omega) (by omega)) (fun n hn => h3 n (by omega))
    rw [sm, ← hi]
    by_cases c : gp N = 1
    · have hs := sm_low (g := fun l => mx (fun n => if gp n = 1 ∧ f n = l then 1 else 0) (N + 1)) (g2 := fun l => mx (fun n => if gp n = 1 ∧ f n = l then 1 else 0) N) (r := f N) (fun l hl => by
        show mx (fun n => if gp n = 1 ∧ f n = l then 1 else 0) N = max (mx (fun n => if gp n = 1 ∧ f n = l then 1 else 0) N) (if gp N = 1 ∧ f N = l then 1 else 0)
        rw [if_neg (fun z => hl z.2.symm)]; omega) (by
        show mx (fun n => if gp n = 1 ∧ f n = f N then 1 else 0) N + 1 = max (mx (fun n => if gp n = 1 ∧ f n = f N then 1 else 0) N) (if gp N = 1 ∧ f N = f N then 1 else 0)
        rw [if_pos ⟨c, rfl⟩]
        have : mx (fun n => if gp n = 1 ∧ f n = f N then 1 else 0) N = 0 := by
          apply Classical.byContradiction
          intro z
          obtain ⟨n, n1, n2⟩ := (mx_iff (Nat.le_refl 1) N).mp (show 1 ≤ mx (fun n => if gp n = 1 ∧ f n = f N then 1 else 0) N by omega)
          have n2 : 1 ≤ (if gp n = 1 ∧ f n = f N then 1 else 0) := n2
          have := ((ite_ge (Nat.le_refl 1)).mp n2).1
          have := h2 n N (by omega) (by omega) this.1 c this.2
          omega
        omega) L
      rw [if_pos (h3 N (by omega) c)] at hs
      rw [c, ← hs]
    · have h0 : gp N = 0 := by have := h1 N (by omega); omega
      rw [h0, Nat.add_zero]
      refine sm_congr L (fun l _ => ?_)
      show max (mx (fun n => if gp n = 1 ∧ f n = l then 1 else 0) N) (if gp N = 1 ∧ f N = l then 1 else 0) = _
      rw [if_neg (fun z => c z.1)]; omega
theorem ov_ex {A : Ab} (hA : WF A) {l : Nat} : ∀ x, inT A x → ov A l x = 1 → ∃ n, inT A n ∧ n ≠ 0 ∧ lnk A n (upn A n) = l ∧ Pth A x n := by
  refine up_ind hA.1 hA.2.1 (P := fun x => ov A l x = 1 → ∃ n, inT A n ∧ n ≠ 0 ∧ lnk A n (upn A n) = l ∧ Pth A x n) (fun h => ?_) (fun x hx hx0 hu ih h => ?_)
  · rw [ov, wk_0] at h; omega
  · have e : ov A l x = if lnk A x (upn A x) = l then 1 else ov A l (upn A x) := wk_up hA.1 hA.2.1 hx hx0
    rw [e] at h
    by_cases c : lnk A x (upn A x) = l
    · exact ⟨x, hx, hx0, c, Pth_rf x⟩
    · rw [if_neg c] at h
      obtain ⟨n, n1, n2, n3, n4⟩ := ih h
      exact ⟨n, n1, n2, n3, (Pth_up hA.1 hA.2.1 hx hx0).mpr (Or.inr n4)⟩
/-- 1 if a receiver is over a link -/
def ovr (A : Ab) (r l : Nat) : Nat := if A 14 r = 0 then 0 else ov A l (A 11 r)
theorem M_isOver_r {A : Ab} {m : St} (hG : WFg A) (hR : RM A m) {r l : Nat} (hr : r < A 0 4) (hl : l < A 0 1) : M_isOver m (nI r) (nI l) = some (nI (ovr A r l)) := by
  have h4 := hG.2.1.1
  have := hG.1.l14 r (by omega)
  exact M_isOver_e hG.1.1 hG.1.2.1 hR hG.1.2.2.2 (by omega) (by omega) hl
theorem ovr_le {A : Ab} (hG : WFg A) {r l : Nat} (hr : r < A 0 4) : ovr A r l ≤ 1 := by
  have h4 := hG.2.1.1
  unfold ovr
  split
  · omega
  · exact ov_le hG.1.1 hG.1.2.1 _ (WFr.in hG.1.1 hG.1.2.2.2 (by omega) (by omega))
theorem ovr_iff {A : Ab} (hG : WFg A) {r n : Nat} (hr : r < A 0 4) (hn : inT A n) (h0 : n ≠ 0) : ovr A r (lnk A n (upn A n)) = 1 ↔ 0 < A 14 r ∧ Pth A (A 11 r) n := by
  have h4 := hG.2.1.1
  unfold ovr
  by_cases c : A 14 r = 0
  · rw [if_pos c]; exact ⟨fun z => by omega, fun z => by omega⟩
  · rw [if_neg c, ov_iff hG.1 hn h0 rfl _ (WFr.in hG.1.1 hG.1.2.2.2 (by omega) (by omega))]
    exact ⟨fun z => ⟨by omega, z⟩, fun z => z.2⟩
theorem shared23 {A : Ab} {m : St} (hG : WFg A) (hR : RM A m) {r q : Nat} (hr : r < A 0 4) (hq : q < A 0 4) : ∀ (fu l : Nat), l ≤ A 0 1 → A 0 1 < l + fu → M_shared_L23 m fu (nI r) (nI q) (nI (sm (fun l => if ovr A r l = 1 ∧ ovr A q l = 1 then 1 else 0) l)) (nI l) = some (nI (sm (fun l => if ovr A r l = 1 ∧ ovr A q l = 1 then 1 else 0) (A 0 1))) := by
  have hN := hG.1.1.1
  intro fu
  induction fu with
  | zero => intro x h1 h2; omega
  | succ fu ih =>
    intro l h1 h2
    rw [M_shared_L23]; unfold M_shared_B23
    rw [rd_at 1 li1 (by omega) (by omega), b1_some, hR.g1]
    simp (disch := omega) only [b1_some, b2_some, lt_e, rd_n, wr_n, nI_add, pk_mul, nI_leI, nI_ltI, nI_eq, nI_1, Int32.add_zero]
    by_cases e : l < A 0 1
    · have nx := ih (l + 1) (by omega) (by omega)
      have no : ¬ (ovr A r l = 1 ∧ ovr A q l = 1) → M_shared_L23 m fu (nI r) (nI q) (nI (sm (fun l => if ovr A r l = 1 ∧ ovr A q l = 1 then 1 else 0) l)) (nI (l + 1)) = some (nI (sm (fun l => if ovr A r l = 1 ∧ ovr A q l = 1 then 1 else 0) (A 0 1))) := fun z => by
        rw [sm, if_neg z, Nat.add_zero] at nx; exact nx
      have b1' := ovr_le hG (l := l) hr
      have b2' := ovr_le hG (l := l) hq
      rw [if_neg (by omega), M_isOver_r hG hR hr e, b1_some]
      by_cases c1 : ovr A r l = 0
      · rw [c1, if_pos nI_0]; exact no (fun z => by omega)
      · rw [if_neg (fun z => c1 ((nI_z (by omega)).mp z)), M_isOver_r hG hR hq e, b1_some]
        by_cases c2 : ovr A q l = 0
        · rw [c2, if_pos nI_0]; exact no (fun z => by omega)
        · rw [if_neg (fun z => c2 ((nI_z (by omega)).mp z))]
          rw [sm, if_pos ⟨by omega, by omega⟩] at nx; exact nx
    · rw [if_pos (by omega)]
      have : l = A 0 1 := by omega
      subst this
      rfl
theorem b_m2 : ∀ i, i < 32 → bt (-2) i = decide (1 ≤ i) := by decide +kernel
theorem sp_shared : Sp_shared Inv := by
  intro k m v1 v2 hI
  obtain ⟨A, hG, hR, hK, hT, hH⟩ := hI
  have hN := hG.1.1.1
  have h4 := hG.2.1.1
  unfold K_shared M_shared
  rcases recv_c hG hR hK v1 with ⟨r, r1, r2, r3, r4, r5⟩ | ⟨r4, r5⟩
  · rcases recv_c hG hR hK v2 with ⟨q, q1, q2, q3, q4, q5⟩ | ⟨q4, q5⟩
    · simp only [b1_some, b2_some, lt_e, o10, eq_self, ↓reduceIte, r4, r5, q4, q5]
      obtain ⟨x, x1, x2⟩ := Sp_pathNodes_e hG.1 (Sg_sI hG.2.1) hK r1
      obtain ⟨y, y1, y2⟩ := Sp_pathNodes_e hG.1 (Sg_sI hG.2.1) hK q1
      have x2 : ∀ n, n < 32 → (bt x n = true ↔ 0 < A 14 r ∧ Pth A (A 11 r) n) := x2
      have y2 : ∀ n, n < 32 → (bt y n = true ↔ 0 < A 14 q ∧ Pth A (A 11 q) n) := y2
      rw [r3, q3, x1, y1, b1_some, b1_some]
      have hb : ∀ n, n < 32 → (bt (x &&& y &&& -2) n = true ↔ 1 ≤ n ∧ (0 < A 14 r ∧ Pth A (A 11 r) n) ∧ (0 < A 14 q ∧ Pth A (A 11 q) n)) := fun n hn => by
        rw [b_and, b_and, Bool.and_eq_true, Bool.and_eq_true, x2 n hn, y2 n hn, b_m2 n hn, decide_eq_true_iff]
        exact ⟨fun z => ⟨z.2, z.1.1, z.1.2⟩, fun z => ⟨⟨z.2.1, z.2.2⟩, z.1⟩⟩
      have hin : ∀ n, n < 32 → bt (x &&& y &&& -2) n = true → inT A n := fun n hn z => by
        have := (hb n hn).mp z
        exact Pth_in hG.1.1 hG.1.2.1 (WFr.in hG.1.1 hG.1.2.2.2 (r := r) (by omega) this.2.1.1) this.2.1.2
      rw [bitCount_e k (v := x &&& y &&& -2) (fun i h1 h2 => by
        cases hbi : bt (x &&& y &&& -2) i with
        | false => rfl
        | true => have := (hin i h2 hbi).1; omega), b1_some]
      have hM := shared23 hG hR r1 q1 FU 0 (by omega) (by rw [FU_e]; omega)
      have hM : M_shared_L23 m FU (nI r) (nI q) 0 0 = some (nI (sm (fun l => if ovr A r l = 1 ∧ ovr A q l = 1 then 1 else 0) (A 0 1))) := hM
      rw [hM]
      have gp1 : ∀ n, (if bt (x &&& y &&& -2) n = true then 1 else 0) = 1 ↔ bt (x &&& y &&& -2) n = true := fun n => by
        split
        · rename_i z; exact ⟨fun _ => z, fun _ => rfl⟩
        · rename_i z; exact ⟨fun w => by omega, fun w => absurd w z⟩
      have hc := cnt_bij (gp := fun n => if bt (x &&& y &&& -2) n = true then 1 else 0) (gq := fun _ => 0) (f := fun n => lnk A n (upn A n)) (L := A 0 1) 16 (fun n _ => by show (if bt (x &&& y &&& -2) n = true then 1 else 0) ≤ 1; split <;> omega) (fun n n2 a b c d e => by
        have c := (gp1 n).mp c
        have d := (gp1 n2).mp d
        have z1 := (hb n (by omega)).mp c
        have z2 := (hb n2 (by omega)).mp d
        exact uplink_inj hG.1.1 hG.1.2.1 (hin n (by omega) c) (hin n2 (by omega) d) (by omega) (by omega) e) (fun n a c => by
        have c := (gp1 n).mp c
        have z1 := (hb n (by omega)).mp c
        exact (lnk_up hG.1 (hin n (by omega) c) (by omega)).2.2.2.2)
      rw [← hc, sm_congr (A 0 1) (g := fun l => if ovr A r l = 1 ∧ ovr A q l = 1 then 1 else 0) (g2 := fun l => mx (fun n => if (if bt (x &&& y &&& -2) n = true then 1 else 0) = 1 ∧ lnk A n (upn A n) = l then 1 else 0) 16) (fun l hl => ?_)]
      · exact ⟨_, rfl, rfl⟩
      · show (if ovr A r l = 1 ∧ ovr A q l = 1 then 1 else 0) = mx (fun n => if (if bt (x &&& y &&& -2) n = true then 1 else 0) = 1 ∧ lnk A n (upn A n) = l then 1 else 0) 16
        by_cases c : ovr A r l = 1 ∧ ovr A q l = 1
        · rw [if_pos c]
          have c1 := c.1
          unfold ovr at c1
          by_cases z : A 14 r = 0
          · rw [if_pos z] at c1; omega
          · rw [if_neg z] at c1
            obtain ⟨n, n1, n2, n3, n4⟩ := ov_ex hG.1 _ (WFr.in hG.1.1 hG.1.2.2.2 (r := r) (by omega) (by omega)) c1
            have hqn := c.2
            rw [← n3, ovr_iff hG q1 n1 n2] at hqn
            have hbn := (hb n (by have := n1.1; omega)).mpr ⟨by omega, ⟨by omega, n4⟩, hqn⟩
            have h1 := mx_ge (g := fun n => if (if bt (x &&& y &&& -2) n = true then 1 else 0) = 1 ∧ lnk A n (upn A n) = l then 1 else 0) 16 n n1.1
            have h2 : (if (if bt (x &&& y &&& -2) n = true then 1 else 0) = 1 ∧ lnk A n (upn A n) = l then 1 else 0) = 1 := if_pos ⟨(gp1 n).mpr hbn, n3⟩
            have h1 : (if (if bt (x &&& y &&& -2) n = true then 1 else 0) = 1 ∧ lnk A n (upn A n) = l then 1 else 0) ≤ mx (fun n => if (if bt (x &&& y &&& -2) n = true then 1 else 0) = 1 ∧ lnk A n (upn A n) = l then 1 else 0) 16 := h1
            have h3 := mx_le (g := fun n => if (if bt (x &&& y &&& -2) n = true then 1 else 0) = 1 ∧ lnk A n (upn A n) = l then 1 else 0) (b := 1) 16 (fun i _ => ite01_le)
            omega
        · rw [if_neg c]
          apply Classical.byContradiction
          intro z
          obtain ⟨n, n1, n2⟩ := (mx_iff (Nat.le_refl 1) 16).mp (show 1 ≤ mx (fun n => if (if bt (x &&& y &&& -2) n = true then 1 else 0) = 1 ∧ lnk A n (upn A n) = l then 1 else 0) 16 by omega)
          have n2 : 1 ≤ (if (if bt (x &&& y &&& -2) n = true then 1 else 0) = 1 ∧ lnk A n (upn A n) = l then 1 else 0) := n2
          have h1 := ((ite_ge (Nat.le_refl 1)).mp n2).1
          have hbn := (gp1 n).mp h1.1
          have hz := (hb n (by omega)).mp hbn
          have hi := hin n (by omega) hbn
          refine c ⟨?_, ?_⟩
          · rw [← h1.2, ovr_iff hG r1 hi (by omega)]; exact hz.2.1
          · rw [← h1.2, ovr_iff hG q1 hi (by omega)]; exact hz.2.2
    · simp only [b1_some, b2_some, lt_e, o10, eq_self, ↓reduceIte, r4, r5, q4, q5]
      exact ⟨-1, rfl, rfl⟩
  · simp only [b1_some, b2_some, lt_e, o10, eq_self, ↓reduceIte, r4, r5]
    exact ⟨-1, rfl, rfl⟩
