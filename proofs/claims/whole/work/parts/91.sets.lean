/-! ===== PHASE B: single cells set, on both sides; frames ===== -/
def Fx (m m2 : St) : Prop := (∀ j, j = 1 ∨ j = 2 ∨ j = 5 ∨ j = 6 → m2.1 j = m.1 j) ∧ ∀ i, i ≠ 23 → i ≠ 28 → m2.1 0 i = m.1 0 i
def Fy (k k2 : St) : Prop := ∀ j, j < 19 ∨ (30 ≤ j ∧ j < 155) → k2.1 j = k.1 j
theorem Fx.rf {m : St} : Fx m m := ⟨fun _ _ => rfl, fun _ _ _ => rfl⟩
theorem Fy.rf {m : St} : Fy m m := fun _ _ => rfl
theorem Fx.tr {a b c : St} (h : Fx a b) (h2 : Fx b c) : Fx a c := ⟨fun j x => (h2.1 j x).trans (h.1 j x), fun i x y => (h2.2 i x y).trans (h.2 i x y)⟩
theorem Fy.tr {a b c : St} (h : Fy a b) (h2 : Fy b c) : Fy a c := fun j x => (h2 j x).trans (h j x)
theorem Fw.x {a b : St} (h : Fw a b) : Fx a b := ⟨fun j x => h.1 j (by omega) (by omega) (by omega), fun i x _ => h.2.1 i x⟩
theorem FK.y {a b : St} (h : FK a b) : Fy a b := fun j x => h.1 j (by omega) (by omega) (by omega) (by omega)
theorem Fx.st {m : St} {k i : Nat} {v : Int32} (hk : k ≠ 0 ∧ k ≠ 1 ∧ k ≠ 2 ∧ k ≠ 5 ∧ k ≠ 6) : Fx m (st m k i v) := ⟨fun j x => st_row_ne (by omega), fun j _ _ => by rw [st_row_ne (by omega)]⟩
theorem Fy.st {m : St} {k i : Nat} {v : Int32} (hk : (19 ≤ k ∧ k < 30) ∨ 155 ≤ k) : Fy m (st m k i v) := fun j x => st_row_ne (by omega)
theorem RMs_es {A B : Ab} {s : Nat → Int32} (h : Es A B) (r : RMs A s) : RMs B s := by
  obtain ⟨h1, h2, h4, h5, h6⟩ := r
  refine ⟨?_, fun l hl => ?_, fun n hn => ?_, fun f hf => ?_, fun f j hf hj => ?_⟩
  · rw [h 0 0 (by omega) (by omega), h 0 1 (by omega) (by omega), h 0 2 (by omega) (by omega), h 0 3 (by omega) (by omega)]; exact h1
  · rw [h 0 1 (by omega) (by omega)] at hl
    rw [h 1 l (by omega) (by omega), h 2 l (by omega) (by omega), h 3 l (by omega) (by omega)]; exact h2 l hl
  · rw [h 4 n (by omega) (by omega)]; exact h4 n hn
  · rw [h 5 f (by omega) (by omega)]; exact h5 f hf
  · rw [h 0 2 (by omega) (by omega)] at hf
    rw [h 0 3 (by omega) (by omega)] at hj
    rw [h 6 _ (by omega) (by omega)]; exact h6 f j hf hj
theorem pmk_congr {A B : Ab} {n : Nat} (h : ∀ f, f < 4 → B 9 (4 * n + f) = A 9 (4 * n + f)) : pmk B n = pmk A n := by
  unfold pmk
  have h0 := h 0 (by omega)
  rw [Nat.add_zero] at h0
  rw [h0, h 1 (by omega), h 2 (by omega), h 3 (by omega)]
/-- the world's row, all but what is said -/
theorem RM.c7 {A : Ab} {m : St} (hs : WFs A) (h : RM A m) {l v : Nat} (hl : l < 32) : RM (up2 A 7 l v) (st m 4 l (nI v)) := by
  have hN := hs.1
  have e : ∀ a j, a ≠ 7 → up2 A 7 l v a j = A a j := fun a j ha => up2_ne (Or.inl ha)
  refine ⟨by rw [st_row_ne (by omega)]; exact RMs_es (fun a j x _ => e a j (by omega)) h.1, ?_⟩
  rw [st_row_same]
  obtain ⟨h1, h2, h3, h4, h5⟩ := h.2
  refine ⟨fun j hj => ?_, fun j hj => ?_, fun j hj => ?_, ?_, fun r hr => ?_⟩
  · rw [e 0 1 (by omega)] at hj
    rw [upd_e, upd_e, if_neg (show ¬ 32 + j = l by omega), e 8 j (by omega)]
    refine ⟨?_, (h1 j hj).2⟩
    by_cases d : j = l
    · rw [if_pos d, d, up2_same]
    · rw [if_neg d, up2_ne (Or.inr d)]; exact (h1 j hj).1
  · rw [upd_e, if_neg (by omega), pmk_congr (A := A) (fun f _ => e 9 _ (by omega))]; exact h2 j hj
  · rw [upd_e, if_neg (by omega), e 10 j (by omega)]; exact h3 j hj
  · rw [upd_e, if_neg (by omega), e 0 4 (by omega)]; exact h4
  · rw [upd_e, upd_e, upd_e, upd_e, upd_e, if_neg (by omega), if_neg (by omega), if_neg (by omega), if_neg (by omega), if_neg (by omega), e 11 r (by omega), e 12 r (by omega), e 13 r (by omega), e 14 r (by omega), e 15 r (by omega)]
    exact h5 r hr
theorem RM.c8 {A : Ab} {m : St} (hs : WFs A) (h : RM A m) {l v : Nat} (hl : l < 32) : RM (up2 A 8 l v) (st m 4 (32 + l) (nI v)) := by
  have hN := hs.1
  have e : ∀ a j, a ≠ 8 → up2 A 8 l v a j = A a j := fun a j ha => up2_ne (Or.inl ha)
  refine ⟨by rw [st_row_ne (by omega)]; exact RMs_es (fun a j x _ => e a j (by omega)) h.1, ?_⟩
  rw [st_row_same]
  obtain ⟨h1, h2, h3, h4, h5⟩ := h.2
  refine ⟨fun j hj => ?_, fun j hj => ?_, fun j hj => ?_, ?_, fun r hr => ?_⟩
  · rw [e 0 1 (by omega)] at hj
    rw [upd_e, upd_e, if_neg (show ¬ j = 32 + l by omega), e 7 j (by omega)]
    refine ⟨(h1 j hj).1, ?_⟩
    by_cases d : j = l
    · rw [if_pos (by omega), d, up2_same]
    · rw [if_neg (by omega), up2_ne (Or.inr d)]; exact (h1 j hj).2
  · rw [upd_e, if_neg (by omega), pmk_congr (A := A) (fun f _ => e 9 _ (by omega))]; exact h2 j hj
  · rw [upd_e, if_neg (by omega), e 10 j (by omega)]; exact h3 j hj
  · rw [upd_e, if_neg (by omega), e 0 4 (by omega)]; exact h4
  · rw [upd_e, upd_e, upd_e, upd_e, upd_e, if_neg (by omega), if_neg (by omega), if_neg (by omega), if_neg (by omega), if_neg (by omega), e 11 r (by omega), e 12 r (by omega), e 13 r (by omega), e 14 r (by omega), e 15 r (by omega)]
    exact h5 r hr
theorem RM.c9 {A : Ab} {m : St} (hs : WFs A) (h : RM A m) {n f v : Nat} (hn : n < 16) (hf : f < 4) : RM (up2 A 9 (4 * n + f) v) (st m 4 (64 + n) (nI (pmk (up2 A 9 (4 * n + f) v) n))) := by
  have hN := hs.1
  have e : ∀ a j, a ≠ 9 → up2 A 9 (4 * n + f) v a j = A a j := fun a j ha => up2_ne (Or.inl ha)
  refine ⟨by rw [st_row_ne (by omega)]; exact RMs_es (fun a j x y => by
    exact e a j (by omega)) h.1, ?_⟩
  rw [st_row_same]
  obtain ⟨h1, h2, h3, h4, h5⟩ := h.2
  refine ⟨fun j hj => ?_, fun j hj => ?_, fun j hj => ?_, ?_, fun r hr => ?_⟩
  · rw [e 0 1 (by omega)] at hj
    rw [upd_e, upd_e, if_neg (by omega), if_neg (by omega), e 7 j (by omega), e 8 j (by omega)]
    exact h1 j hj
  · rw [upd_e]
    by_cases d : j = n
    · rw [if_pos (by omega), d]
    · rw [if_neg (by omega), pmk_congr (A := A) (fun g hg => up2_ne (Or.inr (by omega)))]; exact h2 j hj
  · rw [upd_e, if_neg (by omega), e 10 j (by omega)]; exact h3 j hj
  · rw [upd_e, if_neg (by omega), e 0 4 (by omega)]; exact h4
  · rw [upd_e, upd_e, upd_e, upd_e, upd_e, if_neg (by omega), if_neg (by omega), if_neg (by omega), if_neg (by omega), if_neg (by omega), e 11 r (by omega), e 12 r (by omega), e 13 r (by omega), e 14 r (by omega), e 15 r (by omega)]
    exact h5 r hr
theorem RM.c04 {A : Ab} {m : St} (hs : WFs A) (h : RM A m) {v : Nat} : RM (up2 A 0 4 v) (st m 4 96 (nI v)) := by
  have hN := hs.1
  have e : ∀ a j, (a ≠ 0 ∨ j ≠ 4) → up2 A 0 4 v a j = A a j := fun a j ha => up2_ne ha
  refine ⟨by rw [st_row_ne (by omega)]; exact RMs_es (fun a j x y => e a j (by omega)) h.1, ?_⟩
  rw [st_row_same]
  obtain ⟨h1, h2, h3, h4, h5⟩ := h.2
  refine ⟨fun j hj => ?_, fun j hj => ?_, fun j hj => ?_, ?_, fun r hr => ?_⟩
  · rw [e 0 1 (by omega)] at hj
    rw [upd_e, upd_e, if_neg (by omega), if_neg (by omega), e 7 j (by omega), e 8 j (by omega)]
    exact h1 j hj
  · rw [upd_e, if_neg (by omega), pmk_congr (A := A) (fun f _ => e 9 _ (by omega))]; exact h2 j hj
  · rw [upd_e, if_neg (by omega), e 10 j (by omega)]; exact h3 j hj
  · rw [upd_e, if_pos rfl, up2_same]
  · rw [upd_e, upd_e, upd_e, upd_e, upd_e, if_neg (by omega), if_neg (by omega), if_neg (by omega), if_neg (by omega), if_neg (by omega), e 11 r (by omega), e 12 r (by omega), e 13 r (by omega), e 14 r (by omega), e 15 r (by omega)]
    exact h5 r hr
theorem Bz_nI {v : Nat} (h : v ≤ 1) : Bz (nI v) := by
  rcases (show v = 0 ∨ v = 1 by omega) with rfl | rfl
  · exact Or.inl rfl
  · exact Or.inr rfl
theorem RK.c7 {A : Ab} {s : Nat → Nat} {R : Nat} {k : St} (h : RK A s R k) {l v : Nat} : RK (up2 A 7 l v) s R (st k 25 l (nI v)) := by
  have e : ∀ a j, a ≠ 7 → up2 A 7 l v a j = A a j := fun a j ha => up2_ne (Or.inl ha)
  have g : ∀ j i, j ≠ 25 → gt (st k 25 l (nI v)) j i = gt k j i := fun j i hj => gt_st_k hj
  refine ⟨RKs_es (A := A) (fun a j x _ => e a j (by omega)) (RKs_row (fun j hj => st_row_ne (by omega)) h.1), ?_⟩
  obtain ⟨a1, a2, a3, a4, a5, a6, a7⟩ := h.2
  refine ⟨by rw [g 19 0 (by omega)]; exact a1, fun r hr => ?_, fun j hj => ?_, fun n f hn hf => ?_, fun n hn => ?_, fun i hi => by rw [g (19 + 5) i (by omega)]; exact a6 i hi, fun i hi => by rw [g (19 + 7) i (by omega)]; exact a7 i hi⟩
  · rw [g (19 + 1) r (by omega), g (19 + 2) r (by omega), g (19 + 3) r (by omega), g (19 + 4) r (by omega), g (19 + 5) r (by omega), e 11 _ (by omega), e 12 _ (by omega), e 13 _ (by omega), e 14 _ (by omega), e 15 _ (by omega)]; exact a2 r hr
  · rw [e 0 1 (by omega)] at hj
    rw [g (19 + 7) j (by omega), e 8 j (by omega)]
    refine ⟨?_, (a3 j hj).2⟩
    by_cases d : j = l
    · rw [d, up2_same]; exact gt_st_same
    · rw [up2_ne (Or.inr d), gt_st_i d]; exact (a3 j hj).1
  · rw [g (19 + 8) _ (by omega), e 9 _ (by omega)]; exact a4 n f hn hf
  · rw [g (19 + 9) n (by omega), g (19 + 10) n (by omega), e 10 n (by omega)]; exact a5 n hn
theorem RK.c8 {A : Ab} {s : Nat → Nat} {R : Nat} {k : St} (h : RK A s R k) {l v : Nat} (hv : v ≤ 1) : RK (up2 A 8 l v) s R (st k 26 l (nI v)) := by
  have e : ∀ a j, a ≠ 8 → up2 A 8 l v a j = A a j := fun a j ha => up2_ne (Or.inl ha)
  have g : ∀ j i, j ≠ 26 → gt (st k 26 l (nI v)) j i = gt k j i := fun j i hj => gt_st_k hj
  refine ⟨RKs_es (A := A) (fun a j x _ => e a j (by omega)) (RKs_row (fun j hj => st_row_ne (by omega)) h.1), ?_⟩
  obtain ⟨a1, a2, a3, a4, a5, a6, a7⟩ := h.2
  refine ⟨by rw [g 19 0 (by omega)]; exact a1, fun r hr => ?_, fun j hj => ?_, fun n f hn hf => ?_, fun n hn => ?_, fun i hi => by rw [g (19 + 5) i (by omega)]; exact a6 i hi, fun i hi => ?_⟩
  · rw [g (19 + 1) r (by omega), g (19 + 2) r (by omega), g (19 + 3) r (by omega), g (19 + 4) r (by omega), g (19 + 5) r (by omega), e 11 _ (by omega), e 12 _ (by omega), e 13 _ (by omega), e 14 _ (by omega), e 15 _ (by omega)]; exact a2 r hr
  · rw [e 0 1 (by omega)] at hj
    rw [g (19 + 6) j (by omega), e 7 j (by omega)]
    refine ⟨(a3 j hj).1, ?_⟩
    by_cases d : j = l
    · rw [d, up2_same]; exact gt_st_same
    · rw [up2_ne (Or.inr d), gt_st_i d]; exact (a3 j hj).2
  · rw [g (19 + 8) _ (by omega), e 9 _ (by omega)]; exact a4 n f hn hf
  · rw [g (19 + 9) n (by omega), g (19 + 10) n (by omega), e 10 n (by omega)]; exact a5 n hn
  · by_cases d : i = l
    · rw [d, show gt (st k 26 l (nI v)) (19 + 7) l = nI v from gt_st_same]; exact Bz_nI hv
    · rw [gt_st_i d]; exact a7 i hi
theorem RK.c9 {A : Ab} {s : Nat → Nat} {R : Nat} {k : St} (h : RK A s R k) {n f v : Nat} (hf : f < 4) : RK (up2 A 9 (4 * n + f) v) s R (st k 27 (n * 4 + f) (nI v)) := by
  have e : ∀ a j, a ≠ 9 → up2 A 9 (4 * n + f) v a j = A a j := fun a j ha => up2_ne (Or.inl ha)
  have g : ∀ j i, j ≠ 27 → gt (st k 27 (n * 4 + f) (nI v)) j i = gt k j i := fun j i hj => gt_st_k hj
  refine ⟨RKs_es (A := A) (fun a j x _ => e a j (by omega)) (RKs_row (fun j hj => st_row_ne (by omega)) h.1), ?_⟩
  obtain ⟨a1, a2, a3, a4, a5, a6, a7⟩ := h.2
  refine ⟨by rw [g 19 0 (by omega)]; exact a1, fun r hr => ?_, fun j hj => ?_, fun n2 f2 hn2 hf2 => ?_, fun n hn => ?_, fun i hi => by rw [g (19 + 5) i (by omega)]; exact a6 i hi, fun i hi => by rw [g (19 + 7) i (by omega)]; exact a7 i hi⟩
  · rw [g (19 + 1) r (by omega), g (19 + 2) r (by omega), g (19 + 3) r (by omega), g (19 + 4) r (by omega), g (19 + 5) r (by omega), e 11 _ (by omega), e 12 _ (by omega), e 13 _ (by omega), e 14 _ (by omega), e 15 _ (by omega)]; exact a2 r hr
  · rw [e 0 1 (by omega)] at hj
    rw [g (19 + 6) j (by omega), g (19 + 7) j (by omega), e 7 j (by omega), e 8 j (by omega)]
    exact a3 j hj
  · by_cases d : n2 = n ∧ f2 = f
    · rw [d.1, d.2, up2_same]; exact gt_st_same
    · rw [up2_ne (Or.inr (by omega)), gt_st_i (by omega)]; exact a4 n2 f2 hn2 hf2
  · rw [g (19 + 9) n (by omega), g (19 + 10) n (by omega), e 10 n (by omega)]; exact a5 n hn
/-- what one wants, who has left -/
theorem RK.c13 {A : Ab} {s : Nat → Nat} {R : Nat} {k : St} (hg : Sg A s R) (h : RK A s R k) {r v : Nat} (hr : r < R) : RK (up2 A 13 (s r) v) s R (st k 22 r (nI v)) := by
  have e : ∀ a j, a ≠ 13 → up2 A 13 (s r) v a j = A a j := fun a j ha => up2_ne (Or.inl ha)
  have g : ∀ j i, j ≠ 22 → gt (st k 22 r (nI v)) j i = gt k j i := fun j i hj => gt_st_k hj
  refine ⟨RKs_es (A := A) (fun a j x _ => e a j (by omega)) (RKs_row (fun j hj => st_row_ne (by omega)) h.1), ?_⟩
  obtain ⟨a1, a2, a3, a4, a5, a6, a7⟩ := h.2
  refine ⟨by rw [g 19 0 (by omega)]; exact a1, fun q hq => ?_, fun j hj => ?_, fun n2 f2 hn2 hf2 => ?_, fun n hn => ?_, fun i hi => by rw [g (19 + 5) i (by omega)]; exact a6 i hi, fun i hi => by rw [g (19 + 7) i (by omega)]; exact a7 i hi⟩
  · rw [g (19 + 1) q (by omega), g (19 + 2) q (by omega), g (19 + 4) q (by omega), g (19 + 5) q (by omega), e 11 _ (by omega), e 12 _ (by omega), e 14 _ (by omega), e 15 _ (by omega)]
    obtain ⟨b1', b2', b3', b4', b5'⟩ := a2 q hq
    refine ⟨b1', b2', ?_, b4', b5'⟩
    by_cases d : q = r
    · rw [d, up2_same]; exact gt_st_same
    · rw [up2_ne (Or.inr (fun z => d (hg.2.2.1 q r hq hr z))), gt_st_i d]; exact b3'
  · rw [e 0 1 (by omega)] at hj
    rw [g (19 + 6) j (by omega), g (19 + 7) j (by omega), e 7 j (by omega), e 8 j (by omega)]
    exact a3 j hj
  · rw [g (19 + 8) _ (by omega), e 9 _ (by omega)]; exact a4 n2 f2 hn2 hf2
  · rw [g (19 + 9) n (by omega), g (19 + 10) n (by omega), e 10 n (by omega)]; exact a5 n hn
theorem RK.c15 {A : Ab} {s : Nat → Nat} {R : Nat} {k : St} (hg : Sg A s R) (h : RK A s R k) {r v : Nat} (hr : r < R) (hv : v ≤ 1) : RK (up2 A 15 (s r) v) s R (st k 24 r (nI v)) := by
  have e : ∀ a j, a ≠ 15 → up2 A 15 (s r) v a j = A a j := fun a j ha => up2_ne (Or.inl ha)
  have g : ∀ j i, j ≠ 24 → gt (st k 24 r (nI v)) j i = gt k j i := fun j i hj => gt_st_k hj
  refine ⟨RKs_es (A := A) (fun a j x _ => e a j (by omega)) (RKs_row (fun j hj => st_row_ne (by omega)) h.1), ?_⟩
  obtain ⟨a1, a2, a3, a4, a5, a6, a7⟩ := h.2
  refine ⟨by rw [g 19 0 (by omega)]; exact a1, fun q hq => ?_, fun j hj => ?_, fun n2 f2 hn2 hf2 => ?_, fun n hn => ?_, fun i hi => ?_, fun i hi => by rw [g (19 + 7) i (by omega)]; exact a7 i hi⟩
  · rw [g (19 + 1) q (by omega), g (19 + 2) q (by omega), g (19 + 3) q (by omega), g (19 + 4) q (by omega), e 11 _ (by omega), e 12 _ (by omega), e 13 _ (by omega), e 14 _ (by omega)]
    obtain ⟨b1', b2', b3', b4', b5'⟩ := a2 q hq
    refine ⟨b1', b2', b3', b4', ?_⟩
    by_cases d : q = r
    · rw [d, up2_same]; exact gt_st_same
    · rw [up2_ne (Or.inr (fun z => d (hg.2.2.1 q r hq hr z))), gt_st_i d]; exact b5'
  · rw [e 0 1 (by omega)] at hj
    rw [g (19 + 6) j (by omega), g (19 + 7) j (by omega), e 7 j (by omega), e 8 j (by omega)]
    exact a3 j hj
  · rw [g (19 + 8) _ (by omega), e 9 _ (by omega)]; exact a4 n2 f2 hn2 hf2
  · rw [g (19 + 9) n (by omega), g (19 + 10) n (by omega), e 10 n (by omega)]; exact a5 n hn
  · by_cases d : i = r
    · rw [d, show gt (st k 24 r (nI v)) (19 + 5) r = nI v from gt_st_same]; exact Bz_nI hv
    · rw [gt_st_i d]; exact a6 i hi
/-- what a change of capacities, doors, converters leaves whole -/
theorem WF.c {A B : Ab} (hA : WF A) (h : ∀ a j, a ≠ 7 → a ≠ 8 → a ≠ 9 → B a j = A a j) (hc : WFc B) : WF B := by
  have hes : Es A B := fun a j x _ => h a j (by omega) (by omega) (by omega)
  refine ⟨WFs_es hes hA.1, ?_, hc, fun r hr hl => ?_⟩
  · obtain ⟨t1, t2, t3, g, t4⟩ := hA.2.1
    have e10 : ∀ j, B 10 j = A 10 j := fun j => h 10 j (by omega) (by omega) (by omega)
    refine ⟨by rw [e10]; exact t1, fun n hn h1 => by rw [e10]; exact t2 n hn h1, fun n hn h2 => ?_, g, fun n hn h2 => ?_⟩
    · rw [e10] at h2 ⊢
      obtain ⟨x1, x2, x3, l, x4⟩ := t3 n hn h2
      rw [e10, hes 0 0 (by omega) (by omega)]
      exact ⟨x1, x2, x3, l, (Lk_es hes).mpr x4⟩
    · rw [e10] at h2 ⊢; exact t4 n hn h2
  · rw [h 14 r (by omega) (by omega) (by omega)] at hl ⊢
    rw [h 11 r (by omega) (by omega) (by omega), h 12 r (by omega) (by omega) (by omega), h 10 _ (by omega) (by omega) (by omega), hes 0 0 (by omega) (by omega), hes 0 2 (by omega) (by omega), hes 0 3 (by omega) (by omega)]
    exact hA.2.2.2 r hr hl
theorem WFh.c {A B : Ab} (hG : WFh A) (h : ∀ a j, a ≠ 7 → a ≠ 8 → a ≠ 9 → B a j = A a j) (hc : WFc B) : WFh B := by
  obtain ⟨hA, hq, ht, hlw⟩ := hG
  have e : ∀ a j, a = 0 ∨ 10 ≤ a → B a j = A a j := fun a j x => h a j (by omega) (by omega) (by omega)
  refine ⟨hA.c h hc, ?_, fun n h1 h2 h3 => ?_, fun r hr => ?_⟩
  · unfold WFq
    rw [e 0 4 (by omega), e 0 0 (by omega), e 0 2 (by omega), e 0 3 (by omega)]
    refine ⟨hq.1, fun r hr => ?_, fun r hr h4 => ?_⟩
    · rw [e 11 r (by omega), e 12 r (by omega), e 13 r (by omega), e 15 r (by omega)]; exact hq.2.1 r hr
    · rw [e 14 r (by omega)]; exact hq.2.2 r hr h4
  · rw [e 0 0 (by omega)] at h2 ⊢
    rw [e 10 n (by omega)] at h3
    rcases ht n h1 h2 h3 with ⟨c, c1, c2, c3⟩ | ⟨r, r1, r2, r3⟩
    · exact Or.inl ⟨c, c1, c2, by rw [e 10 c (by omega)]; exact c3⟩
    · exact Or.inr ⟨r, r1, by rw [e 14 r (by omega)]; exact r2, by rw [e 11 r (by omega)]; exact r3⟩
  · rw [e 0 4 (by omega)] at hr
    rw [e 14 r (by omega), e 13 r (by omega)]; exact hlw r hr
theorem WFg.c {A B : Ab} (hG : WFg A) (h : ∀ a j, a ≠ 7 → a ≠ 8 → a ≠ 9 → B a j = A a j) (hc : WFc B) (h7 : ∀ l, B 7 l = A 7 l) : WFg B := by
  obtain ⟨a1, a2, a3, a4⟩ := hG.h.c h hc
  exact ⟨a1, a2, a3, a4, Cp_of hG.2.2.2.2 (fun a j x _ => h a j (by omega) (by omega) (by omega)) h7 (fun j _ => Or.inl (h 10 j (by omega) (by omega) (by omega)))⟩
theorem WFc.c8 {A : Ab} (hc : WFc A) {l v : Nat} (hv : v ≤ 1) : WFc (up2 A 8 l v) := by
  have e : ∀ a j, a ≠ 8 → up2 A 8 l v a j = A a j := fun a j ha => up2_ne (Or.inl ha)
  refine ⟨fun j hj => ?_, fun n f hn hf => ?_⟩
  · rw [e 0 1 (by omega)] at hj
    rw [e 7 j (by omega)]
    refine ⟨(hc.1 j hj).1, ?_⟩
    by_cases d : j = l
    · rw [d, up2_same]; exact hv
    · rw [up2_ne (Or.inr d)]; exact (hc.1 j hj).2
  · rw [e 9 _ (by omega), e 0 0 (by omega), e 0 2 (by omega)]; exact hc.2 n f hn hf
theorem WFc.c7 {A : Ab} (hc : WFc A) {l v : Nat} (hv : v ≤ 9999) : WFc (up2 A 7 l v) := by
  have e : ∀ a j, a ≠ 7 → up2 A 7 l v a j = A a j := fun a j ha => up2_ne (Or.inl ha)
  refine ⟨fun j hj => ?_, fun n f hn hf => ?_⟩
  · rw [e 0 1 (by omega)] at hj
    rw [e 8 j (by omega)]
    refine ⟨?_, (hc.1 j hj).2⟩
    by_cases d : j = l
    · rw [d, up2_same]; exact hv
    · rw [up2_ne (Or.inr d)]; exact (hc.1 j hj).1
  · rw [e 9 _ (by omega), e 0 0 (by omega), e 0 2 (by omega)]; exact hc.2 n f hn hf
theorem WFc.c9 {A : Ab} (hc : WFc A) {n f v : Nat} (hn : n < A 0 0) (hf1 : 1 ≤ f) (hf : f < A 0 2) (hf4 : f < 4) (hv : v ≤ 1) : WFc (up2 A 9 (4 * n + f) v) := by
  have e : ∀ a j, a ≠ 9 → up2 A 9 (4 * n + f) v a j = A a j := fun a j ha => up2_ne (Or.inl ha)
  refine ⟨fun j hj => ?_, fun n2 f2 hn2 hf2 => ?_⟩
  · rw [e 0 1 (by omega)] at hj
    rw [e 7 j (by omega), e 8 j (by omega)]; exact hc.1 j hj
  · rw [e 0 0 (by omega), e 0 2 (by omega)]
    by_cases d : n2 = n ∧ f2 = f
    · rw [d.1, d.2, up2_same]; exact ⟨hv, fun _ => ⟨hn, hf1, hf⟩⟩
    · rw [up2_ne (Or.inr (by omega))]; exact hc.2 n2 f2 hn2 hf2
