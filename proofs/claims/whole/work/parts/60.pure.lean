/-! ===== PHASE B: pure base ===== -/
theorem li0 : (0 : Int32) = nI 0 := by decide
theorem li1 : (1 : Int32) = nI 1 := by decide
theorem li2 : (2 : Int32) = nI 2 := by decide
theorem li3 : (3 : Int32) = nI 3 := by decide
theorem li4 : (4 : Int32) = nI 4 := by decide
theorem li5 : (5 : Int32) = nI 5 := by decide
theorem li6 : (6 : Int32) = nI 6 := by decide
theorem li7 : (7 : Int32) = nI 7 := by decide
theorem li8 : (8 : Int32) = nI 8 := by decide
theorem li9 : (9 : Int32) = nI 9 := by decide
theorem li10 : (10 : Int32) = nI 10 := by decide
theorem li11 : (11 : Int32) = nI 11 := by decide
theorem li12 : (12 : Int32) = nI 12 := by decide
theorem li13 : (13 : Int32) = nI 13 := by decide
theorem li14 : (14 : Int32) = nI 14 := by decide
theorem li15 : (15 : Int32) = nI 15 := by decide
theorem li16 : (16 : Int32) = nI 16 := by decide
theorem li17 : (17 : Int32) = nI 17 := by decide
theorem li18 : (18 : Int32) = nI 18 := by decide
theorem li19 : (19 : Int32) = nI 19 := by decide
theorem li20 : (20 : Int32) = nI 20 := by decide
theorem li21 : (21 : Int32) = nI 21 := by decide
theorem li22 : (22 : Int32) = nI 22 := by decide
theorem li23 : (23 : Int32) = nI 23 := by decide
theorem li24 : (24 : Int32) = nI 24 := by decide
theorem li25 : (25 : Int32) = nI 25 := by decide
theorem li26 : (26 : Int32) = nI 26 := by decide
theorem li27 : (27 : Int32) = nI 27 := by decide
theorem li28 : (28 : Int32) = nI 28 := by decide
theorem li29 : (29 : Int32) = nI 29 := by decide
theorem li30 : (30 : Int32) = nI 30 := by decide
theorem li31 : (31 : Int32) = nI 31 := by decide
theorem li32 : (32 : Int32) = nI 32 := by decide
theorem li34 : (34 : Int32) = nI 34 := by decide
theorem li48 : (48 : Int32) = nI 48 := by decide
theorem li57 : (57 : Int32) = nI 57 := by decide
theorem li59 : (59 : Int32) = nI 59 := by decide
theorem li63 : (63 : Int32) = nI 63 := by decide
theorem li64 : (64 : Int32) = nI 64 := by decide
theorem li80 : (80 : Int32) = nI 80 := by decide
theorem li96 : (96 : Int32) = nI 96 := by decide
theorem li97 : (97 : Int32) = nI 97 := by decide
theorem li99 : (99 : Int32) = nI 99 := by decide
theorem li100 : (100 : Int32) = nI 100 := by decide
theorem li122 : (122 : Int32) = nI 122 := by decide
theorem li128 : (128 : Int32) = nI 128 := by decide
theorem li132 : (132 : Int32) = nI 132 := by decide
theorem li148 : (148 : Int32) = nI 148 := by decide
theorem li168 : (168 : Int32) = nI 168 := by decide
theorem li172 : (172 : Int32) = nI 172 := by decide
theorem li180 : (180 : Int32) = nI 180 := by decide
theorem li181 : (181 : Int32) = nI 181 := by decide
theorem li200 : (200 : Int32) = nI 200 := by decide
theorem li202 : (202 : Int32) = nI 202 := by decide
theorem li255 : (255 : Int32) = nI 255 := by decide
theorem li256 : (256 : Int32) = nI 256 := by decide
theorem li999 : (999 : Int32) = nI 999 := by decide
theorem li1000 : (1000 : Int32) = nI 1000 := by decide
theorem li1400 : (1400 : Int32) = nI 1400 := by decide
theorem li1616 : (1616 : Int32) = nI 1616 := by decide
theorem li1818 : (1818 : Int32) = nI 1818 := by decide
theorem li2020 : (2020 : Int32) = nI 2020 := by decide
theorem li9999 : (9999 : Int32) = nI 9999 := by decide
theorem li10000 : (10000 : Int32) = nI 10000 := by decide
theorem li_far : (1000000000 : Int32) = nI 1000000000 := by decide
theorem li_unr : (16777216 : Int32) = nI 16777216 := by decide
theorem b1_some {α β : Type} {a : α} {f : α → Option β} : b1 (some a) f = f a := rfl
theorem b2_some {α β γ : Type} {a : α} {b : β} {f : α → β → Option γ} : b2 (some (a, b)) f = f a b := rfl
theorem lt_e {α β : Type} {a : α} {f : α → β} : lt_ a f = f a := rfl
theorem b1_e {α β : Type} {x : Option α} {a : α} {f : α → Option β} (h : x = some a) : b1 x f = f a := by rw [h]; rfl
theorem b2_e {α β γ : Type} {x : Option (α × β)} {a : α} {b : β} {f : α → β → Option γ} (h : x = some (a, b)) : b2 x f = f a b := by rw [h]; rfl
theorem rd_at {len : Nat} {q : St} {k : Nat} {i : Int32} (n : Nat) (hi : i = nI n) (h : n < len) (hl : len < 2 ^ 31) : rd len q k i = some (gt q k n) := by
  subst hi
  unfold rd
  have hc : (nI n).toNatClampNeg = n := nI_clamp (by omega)
  rw [if_neg (by rw [hc]; intro e; rcases e with e | e; exact nI_pos (by omega) e; omega), hc]
theorem wr_at {len : Nat} {q : St} {k : Nat} {i v : Int32} (n : Nat) (hi : i = nI n) (h : n < len) (hl : len < 2 ^ 31) : wr len q k i v = some (st q k n v) := by
  subst hi
  unfold wr
  have hc : (nI n).toNatClampNeg = n := nI_clamp (by omega)
  rw [if_neg (by rw [hc]; intro e; rcases e with e | e; exact nI_pos (by omega) e; omega), hc]
theorem gt_st {q : St} {k i k2 i2 : Nat} {v : Int32} : gt (st q k i v) k2 i2 = if k2 = k ∧ i2 = i then v else gt q k2 i2 := by
  unfold gt st rw_ upd
  by_cases h : k2 = k
  · subst h
    by_cases h2 : i2 = i <;> simp [h2]
  · simp [h]
theorem gt_st_same {q : St} {k i : Nat} {v : Int32} : gt (st q k i v) k i = v := by rw [gt_st, if_pos ⟨rfl, rfl⟩]
theorem gt_st_k {q : St} {k i k2 i2 : Nat} {v : Int32} (h : k2 ≠ k) : gt (st q k i v) k2 i2 = gt q k2 i2 := by rw [gt_st, if_neg (fun e => h e.1)]
theorem gt_st_i {q : St} {k i i2 : Nat} {v : Int32} (h : i2 ≠ i) : gt (st q k i v) k i2 = gt q k i2 := by rw [gt_st, if_neg (fun e => h e.2)]
theorem st_row_ne {q : St} {k i k2 : Nat} {v : Int32} (h : k2 ≠ k) : (st q k i v).1 k2 = q.1 k2 := by unfold st rw_; simp [h]
theorem st_row_same {q : St} {k i : Nat} {v : Int32} : (st q k i v).1 k = upd (q.1 k) i v := by unfold st rw_; simp
theorem st_2 {q : St} {k i : Nat} {v : Int32} : (st q k i v).2 = q.2 := rfl
theorem gt_e {q : St} {k i : Nat} : gt q k i = q.1 k i := rfl
theorem upd_e {f : Nat → Int32} {i j : Nat} {v : Int32} : upd f i v j = if j = i then v else f j := rfl
def Ok {α : Type} (x : Option α) (P : α → Prop) : Prop := ∃ a, x = some a ∧ P a
theorem Ok.b1 {α β : Type} {x : Option α} {f : α → Option β} {P : β → Prop} {R : α → Prop} (h : Ok x R) (k : ∀ a, R a → Ok (f a) P) : Ok (b1 x f) P := by
  obtain ⟨a, e, h⟩ := h
  rw [e]; exact k a h
theorem Ok.b2 {α β γ : Type} {x : Option (α × β)} {f : α → β → Option γ} {P : γ → Prop} {R : α × β → Prop} (h : Ok x R) (k : ∀ a b, R (a, b) → Ok (f a b) P) : Ok (b2 x f) P := by
  obtain ⟨⟨a, b⟩, e, h⟩ := h
  rw [e]; exact k a b h
theorem Ok.of {α : Type} {x : Option α} {a : α} {P : α → Prop} (e : x = some a) (h : P a) : Ok x P := ⟨a, e, h⟩
theorem Ok.ite {α : Type} {c : Prop} [Decidable c] {x y : Option α} {P : α → Prop} (h1 : c → Ok x P) (h2 : ¬ c → Ok y P) : Ok (if c then x else y) P := by
  by_cases h : c
  · rw [if_pos h]; exact h1 h
  · rw [if_neg h]; exact h2 h
theorem Ok.imp {α : Type} {x : Option α} {P R : α → Prop} (h : Ok x P) (k : ∀ a, P a → R a) : Ok x R := by
  obtain ⟨a, e, h⟩ := h
  exact ⟨a, e, k a h⟩
theorem nI_inj {a b : Nat} (ha : a < 2 ^ 31) (hb : b < 2 ^ 31) (h : nI a = nI b) : a = b := (nI_eq ha hb).mp h
theorem nI_neg1 {a : Nat} (ha : a < 2 ^ 31) : ¬ nI a = -1 := fun h => by
  have h1 := congrArg Int32.toInt h
  rw [nI_toInt ha] at h1
  have : (-1 : Int32).toInt = -1 := by decide
  rw [this] at h1
  omega
theorem nI_neg2 {a : Nat} (ha : a < 2 ^ 31) : ¬ nI a = -2 := fun h => by
  have h1 := congrArg Int32.toInt h
  rw [nI_toInt ha] at h1
  have : (-2 : Int32).toInt = -2 := by decide
  rw [this] at h1
  omega
theorem i32_lt {x y : Int32} : x < y ↔ x.toInt < y.toInt := Int32.lt_iff_toInt_lt
theorem i32_le {x y : Int32} : x ≤ y ↔ x.toInt ≤ y.toInt := Int32.le_iff_toInt_le
theorem i64_lt {x y : Int64} : x < y ↔ x.toInt < y.toInt := Int64.lt_iff_toInt_lt
theorem i64_of {x : Int32} : x.toInt64.toInt = x.toInt := Int32.toInt_toInt64 x
theorem FU_e : FU = 4000 := rfl
/-- an argument is a number below n, or it isn't -/
theorem ncases (v : Int32) {n : Nat} (hn : n < 2 ^ 31) : (∃ j, j < n ∧ v = nI j) ∨ ¬ (0 ≤ v.toInt ∧ v.toInt < n) := by
  by_cases h : 0 ≤ v.toInt ∧ v.toInt < n
  · left
    have hv : vp_in v n := vp_in_iff.mpr h
    exact vp_in_of hv hn
  · exact Or.inr h
theorem M_in3 (q : St) (v a b : Int32) : M_in q v.toInt64 a.toInt64 b.toInt64 = some (if a.toInt ≤ v.toInt ∧ v.toInt ≤ b.toInt then 1 else 0) := by
  unfold M_in
  by_cases h1 : v.toInt < a.toInt
  · rw [if_pos ((lg_cmp_lt _ _).mpr (i64_lt.mpr (by rw [i64_of, i64_of]; exact h1))), if_neg (by omega)]
  · rw [if_neg (fun h => h1 (by have := i64_lt.mp ((lg_cmp_lt _ _).mp h); rw [i64_of, i64_of] at this; exact this))]
    by_cases h2 : b.toInt < v.toInt
    · rw [if_pos ((lg_cmp_gt _ _).mpr (i64_lt.mpr (by rw [i64_of, i64_of]; exact h2))), if_neg (by omega)]
    · rw [if_neg (fun h => h2 (by have := i64_lt.mp ((lg_cmp_gt _ _).mp h); rw [i64_of, i64_of] at this; exact this)), if_pos (by omega)]
