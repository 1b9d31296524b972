/-! ===== PHASE B: demands by receivers ===== -/
/-- the format that a node asks for, if it is asked for f -/
def stp (A : Ab) (n f : Nat) : Nat := if f ≠ 0 ∧ A 9 (4 * n + f) = 1 then 0 else f
def fmc (A : Ab) (x f : Nat) : Nat → Nat
  | 0 => f
  | i + 1 => stp A (chn A i x) (fmc A x f i)
/-- what the receiver r asks for comes to node n in format f -/
def Arr (A : Ab) (r n f : Nat) : Prop := ∃ i, i ≤ dep A (A 11 r) ∧ chn A i (A 11 r) = n ∧ fmc A (A 11 r) (A 12 r) i = f
theorem chn_inT {A : Ab} (hs : WFs A) (ht : WFt A) {x i : Nat} (hx : inT A x) (hi : i ≤ dep A x) : inT A (chn A i x) :=
  chn_in hs ht i x hx (fun j hj => (dep_le hs ht hx).2.2 j (by omega))
theorem Arr_step {A : Ab} (hs : WFs A) (ht : WFt A) {r n f : Nat} (hx : inT A (A 11 r)) : Arr A r n f ↔ (A 11 r = n ∧ A 12 r = f) ∨ ∃ c, inT A c ∧ c ≠ 0 ∧ upn A c = n ∧ ∃ f2, Arr A r c f2 ∧ stp A c f2 = f := by
  have hd := dep_le hs ht hx
  constructor
  · rintro ⟨i, h1, h2, h3⟩
    cases i with
    | zero => exact Or.inl ⟨h2, h3⟩
    | succ j =>
      refine Or.inr ⟨chn A j (A 11 r), chn_inT hs ht hx (by omega), hd.2.2 j (by omega), ?_, fmc A (A 11 r) (A 12 r) j, ⟨j, by omega, rfl, rfl⟩, h3⟩
      rw [← chn_succ]; exact h2
  · rintro (⟨h1, h2⟩ | ⟨c, hc, c0, hu, f2, ⟨j, h1, h2, h3⟩, h4⟩)
    · exact ⟨0, by omega, h1, h2⟩
    · have : j ≠ dep A (A 11 r) := fun e => by rw [e, hd.2.1] at h2; omega
      refine ⟨j + 1, by omega, ?_, ?_⟩
      · rw [chn_succ, h2]; exact hu
      · rw [fmc, h2, h3]; exact h4
theorem Arr_in {A : Ab} (hs : WFs A) (ht : WFt A) {r n f : Nat} (hx : inT A (A 11 r)) (h : Arr A r n f) : inT A n := by
  obtain ⟨i, h1, h2, _⟩ := h
  rw [← h2]; exact chn_inT hs ht hx h1
theorem stp_lt {A : Ab} (hs : WFs A) {n f : Nat} (h : f < A 0 2) : stp A n f < A 0 2 := by
  have hN := hs.1
  unfold stp
  split <;> omega
theorem fmc_lt {A : Ab} (hs : WFs A) {x f : Nat} (h : f < A 0 2) : ∀ i, fmc A x f i < A 0 2 := by
  intro i
  induction i with
  | zero => exact h
  | succ i ih => exact stp_lt hs ih
theorem mx_iff {g : Nat → Nat} {k : Nat} (hk : 1 ≤ k) : ∀ n, k ≤ mx g n ↔ ∃ i, i < n ∧ k ≤ g i := by
  intro n
  induction n with
  | zero => rw [mx]; exact ⟨fun h => by omega, fun ⟨i, h, _⟩ => by omega⟩
  | succ n ih =>
    rw [mx]
    constructor
    · intro h
      by_cases c : k ≤ mx g n
      · obtain ⟨i, h1, h2⟩ := ih.mp c
        exact ⟨i, by omega, h2⟩
      · exact ⟨n, by omega, by omega⟩
    · rintro ⟨i, h1, h2⟩
      by_cases c : i = n
      · rw [c] at h2; omega
      · have := ih.mpr ⟨i, by omega, h2⟩
        omega
theorem ite_ge {P : Prop} [Decidable P] {a k : Nat} (hk : 1 ≤ k) : k ≤ (if P then a else 0) ↔ P ∧ k ≤ a := by
  by_cases h : P
  · rw [if_pos h]; exact ⟨fun x => ⟨h, x⟩, fun x => x.2⟩
  · rw [if_neg h]; exact ⟨fun x => by omega, fun x => absurd x.1 h⟩
theorem c0_iff {A D : Ab} {n k : Nat} : ∀ g, k ≤ c0 A D n g ↔ k ≤ D 0 (4 * n) ∨ ∃ f, f < g ∧ f ≠ 0 ∧ A 9 (4 * n + f) = 1 ∧ k ≤ D 0 (4 * n + f) := by
  intro g
  induction g with
  | zero => rw [c0]; exact ⟨Or.inl, fun h => h.elim id (fun ⟨f, h, _⟩ => by omega)⟩
  | succ g ih =>
    rw [c0]
    constructor
    · intro h
      split at h
      · rename_i c
        by_cases e : k ≤ c0 A D n g
        · rcases ih.mp e with e | ⟨f, a, b⟩
          · exact Or.inl e
          · exact Or.inr ⟨f, by omega, b⟩
        · exact Or.inr ⟨g, by omega, c.1, c.2, by omega⟩
      · rcases ih.mp h with e | ⟨f, a, b⟩
        · exact Or.inl e
        · exact Or.inr ⟨f, by omega, b⟩
    · intro h
      have h2 : k ≤ c0 A D n g ∨ (g ≠ 0 ∧ A 9 (4 * n + g) = 1 ∧ k ≤ D 0 (4 * n + g)) := by
        rcases h with h | ⟨f, a, b⟩
        · exact Or.inl (ih.mpr (Or.inl h))
        · by_cases e : f = g
          · rw [e] at b; exact Or.inr b
          · exact Or.inl (ih.mpr (Or.inr ⟨f, by omega, b⟩))
      split
      · rcases h2 with h2 | h2 <;> omega
      · rename_i c
        rcases h2 with h2 | h2
        · exact h2
        · exact absurd ⟨h2.1, h2.2.1⟩ c
theorem dn_iff {A D : Ab} (hs : WFs A) {n f k : Nat} (hf : f < A 0 2) : k ≤ dn A D n f ↔ ∃ f2, f2 < A 0 2 ∧ (f2 = f ∨ stp A n f2 = f) ∧ k ≤ D 0 (4 * n + f2) := by
  have hN := hs.1
  unfold dn
  by_cases e : f = 0
  · rw [if_pos e, c0_iff]
    constructor
    · rintro (h | ⟨g, a, b, c, d⟩)
      · exact ⟨0, by omega, Or.inl e.symm, h⟩
      · exact ⟨g, a, Or.inr (by unfold stp; rw [if_pos ⟨b, c⟩, e]), d⟩
    · rintro ⟨g, a, b, c⟩
      by_cases z : g = 0
      · rw [z] at c; exact Or.inl c
      · refine Or.inr ⟨g, a, z, ?_, c⟩
        rcases b with b | b
        · omega
        · unfold stp at b
          split at b
          · rename_i x; exact x.2
          · omega
  · rw [if_neg e]
    constructor
    · intro h; exact ⟨f, hf, Or.inl rfl, h⟩
    · rintro ⟨g, a, b, c⟩
      have : g = f := by
        rcases b with b | b
        · exact b
        · unfold stp at b
          split at b
          · omega
          · exact b
      rw [this] at c; exact c
theorem as_iff {A D : Ab} (hs : WFs A) {n f k : Nat} (hk : 1 ≤ k) (hf : f < A 0 2) : k ≤ as_ A D n f ↔ ∃ f2, f2 < A 0 2 ∧ stp A n f2 = f ∧ k ≤ D 0 (4 * n + f2) := by
  unfold as_
  by_cases c : f ≠ 0 ∧ A 9 (4 * n + f) = 1
  · rw [if_pos c]
    constructor
    · intro h; omega
    · rintro ⟨g, a, b, d⟩
      unfold stp at b
      split at b
      · exact absurd b.symm c.1
      · rename_i x; rw [b] at x; exact absurd c x
  · rw [if_neg c, dn_iff hs hf]
    constructor
    · rintro ⟨g, a, b, d⟩
      refine ⟨g, a, ?_, d⟩
      rcases b with b | b
      · rw [b]; unfold stp; rw [if_neg c]
      · exact b
    · rintro ⟨g, a, b, d⟩; exact ⟨g, a, Or.inr b, d⟩
theorem ow_iff {A : Ab} {n f k : Nat} (hk : 1 ≤ k) : k ≤ ow A n f ↔ ∃ r, r < 21 ∧ k ≤ A 14 r ∧ A 11 r = n ∧ A 12 r = f := by
  unfold ow
  rw [mx_iff hk]
  constructor
  · rintro ⟨r, a, b⟩
    have b := (ite_ge hk).mp b
    exact ⟨r, a, b.2, b.1.2.1, b.1.2.2⟩
  · rintro ⟨r, a, b, c, d⟩
    exact ⟨r, a, (ite_ge hk).mpr ⟨⟨by omega, c, d⟩, b⟩⟩
theorem ar_iff {A : Ab} (hs : WFs A) (ht : WFt A) (hr : WFr A) {k : Nat} (hk : 1 ≤ k) : ∀ (e n f : Nat), inT A n → 16 ≤ e + dep A n → f < A 0 2 → (k ≤ arD A 0 (4 * n + f) ↔ ∃ r, r < 21 ∧ k ≤ A 14 r ∧ Arr A r n f) := by
  intro e
  induction e with
  | zero => intro n f hn he; have := (dep_le hs ht hn).1; omega
  | succ e ih =>
    intro n f hn he hf
    rw [arD_e hs ht hn hf]
    have hmax : k ≤ max (ow A n f) (mx (fun c => if c ≠ 0 ∧ A 10 c = n + 2 then as_ A (arD A) c f else 0) 16) ↔ (k ≤ ow A n f ∨ k ≤ mx (fun c => if c ≠ 0 ∧ A 10 c = n + 2 then as_ A (arD A) c f else 0) 16) := by omega
    rw [hmax, ow_iff hk, mx_iff hk]
    constructor
    · rintro (⟨r, a, b, c, d⟩ | ⟨c, h16, h⟩)
      · exact ⟨r, a, b, 0, by omega, c, d⟩
      · have h := (ite_ge hk).mp h
        obtain ⟨h1, h2, h3, h4⟩ := child_in hs ht h16 h.1.1 h.1.2
        obtain ⟨g, a, b, d⟩ := (as_iff hs hk hf).mp h.2
        obtain ⟨r, x, y, z⟩ := (ih c g h1 (by omega) a).mp d
        have hx : inT A (A 11 r) := by
          have := hr r x (by omega)
          have hN := hs.1
          exact ⟨by omega, this.2.2.2⟩
        exact ⟨r, x, y, (Arr_step hs ht hx).mpr (Or.inr ⟨c, h1, h.1.1, h2, g, z, b⟩)⟩
    · rintro ⟨r, x, y, z⟩
      have hw := hr r x (by omega)
      have hx : inT A (A 11 r) := by
        have hN := hs.1
        exact ⟨by omega, hw.2.2.2⟩
      rcases (Arr_step hs ht hx).mp z with ⟨a, b⟩ | ⟨c, h1, h2, h3, g, h4, h5⟩
      · exact Or.inl ⟨r, x, y, a, b⟩
      · refine Or.inr ⟨c, h1.1, (ite_ge hk).mpr ⟨⟨h2, ?_⟩, (as_iff hs hk hf).mpr ⟨g, ?_, h5, ?_⟩⟩⟩
        · have := (inT_up hs ht h1 h2).2.2.2.2.1
          rw [h3] at this; exact this
        · obtain ⟨i, _, _, q⟩ := h4
          rw [← q]; exact fmc_lt hs hw.2.1 i
        · have hg : g < A 0 2 := by
            obtain ⟨i, _, _, q⟩ := h4
            rw [← q]; exact fmc_lt hs hw.2.1 i
          have hdp : dep A c = dep A n + 1 := by rw [dep_up hs ht h1 h2, h3]
          exact (ih c g h1 (by omega) hg).mpr ⟨r, x, y, h4⟩
theorem arD_iff {A : Ab} (hs : WFs A) (ht : WFt A) (hr : WFr A) {k n f : Nat} (hk : 1 ≤ k) (hn : inT A n) (hf : f < A 0 2) : k ≤ arD A 0 (4 * n + f) ↔ ∃ r, r < 21 ∧ k ≤ A 14 r ∧ Arr A r n f :=
  ar_iff hs ht hr hk 16 n f hn (by omega) hf
theorem dmd_iff {A : Ab} (hs : WFs A) (ht : WFt A) (hr : WFr A) {k n f : Nat} (hk : 1 ≤ k) (hn : n < 16) (hf : f < A 0 2) : k ≤ dmd A n f ↔ ∃ r g, r < 21 ∧ k ≤ A 14 r ∧ Arr A r n g ∧ (g = f ∨ stp A n g = f) := by
  unfold dmd
  by_cases c : A 10 n = 0
  · rw [if_pos c]
    constructor
    · intro h; omega
    · rintro ⟨r, g, a, b, d, _⟩
      have hw := hr r a (by omega)
      have hN := hs.1
      exact absurd c (Arr_in hs ht ⟨by omega, hw.2.2.2⟩ d).2
  · rw [if_neg c, dn_iff hs hf]
    constructor
    · rintro ⟨g, a, b, d⟩
      obtain ⟨r, x, y, z⟩ := (arD_iff hs ht hr hk ⟨hn, c⟩ a).mp d
      exact ⟨r, g, x, y, z, b⟩
    · rintro ⟨r, g, a, b, d, e⟩
      have hw := hr r a (by omega)
      have hg : g < A 0 2 := by
        obtain ⟨i, _, _, q⟩ := d
        rw [← q]; exact fmc_lt hs hw.2.1 i
      exact ⟨g, hg, e, (arD_iff hs ht hr hk ⟨hn, c⟩ hg).mpr ⟨r, a, b, d⟩⟩
/-- who is over a link -/
theorem ov_chn {A : Ab} (hs : WFs A) (ht : WFt A) {l n : Nat} (h0 : n ≠ 0) (hl : lnk A n (upn A n) = l) : ∀ (i x : Nat), inT A x → i ≤ dep A x → chn A i x = n → ov A l x = 1 := by
  intro i
  induction i with
  | zero =>
    intro x hx _ e
    have e : x = n := e
    subst e
    rw [ov, wk_up hs ht hx h0, if_pos hl]
  | succ i ih =>
    intro x hx hi e
    have hx0 : x ≠ 0 := fun c => by rw [c, dep_0] at hi; omega
    have hu := inT_up hs ht hx hx0
    have := ih (upn A x) hu.2.2.1 (by have := dep_up hs ht hx hx0; omega) e
    rw [ov, wk_up hs ht hx hx0]
    split
    · rfl
    · exact this
/-- who is served where: as long as the format is other than the native one, nobody below has a converter -/
theorem sv_chn {A : Ab} (hs : WFs A) (ht : WFt A) {f : Nat} : ∀ (i x g : Nat), inT A x → i ≤ dep A x → fmc A x g i = f → f ≠ 0 → g = f ∧ sv A f x = sv A f (chn A i x) := by
  intro i
  induction i with
  | zero => intro x g _ _ e _; exact ⟨e, rfl⟩
  | succ i ih =>
    intro x g hx hi e hf
    have h1 : fmc A x g i = f := by
      rw [fmc] at e
      unfold stp at e
      split at e
      · omega
      · exact e
    obtain ⟨h2, h3⟩ := ih x g hx (by omega) h1 hf
    refine ⟨h2, h3.trans ?_⟩
    have hin := chn_inT hs ht hx (i := i) (by omega)
    have hz : chn A i x ≠ 0 := (dep_le hs ht hx).2.2 i (by omega)
    rw [chn_succ, sv, wk_up hs ht hin hz, if_neg]
    intro c
    rw [fmc, h1] at e
    unfold stp at e
    rw [if_pos ⟨hf, c⟩] at e
    omega
