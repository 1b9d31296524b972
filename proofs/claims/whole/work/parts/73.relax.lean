/-! ===== PHASE B: shortest ways, by relaxing ===== -/
def rl (X : Nat → Nat) (v b c : Nat) : Nat → Nat := fun u => if u = v then min (X v) (X b + c) else X u
theorem rl_le {X : Nat → Nat} {v b c : Nat} (u : Nat) : rl X v b c u ≤ X u := by
  unfold rl
  split
  · rename_i e; rw [e]; omega
  · exact Nat.le_refl _
theorem rl_v {X : Nat → Nat} {v b c : Nat} : rl X v b c v ≤ X b + c := by unfold rl; rw [if_pos rfl]; omega
def Snd (E : Nat → Nat → Nat → Prop) (t F : Nat) (X : Nat → Nat) : Prop := X t = 0 ∧ ∀ v, X v < F → v = t ∨ ∃ b c, E v b c ∧ X b + c ≤ X v
def Cls (E : Nat → Nat → Nat → Prop) (X : Nat → Nat) : Prop := ∀ v b c, E v b c → X v ≤ X b + c
theorem rl_snd {E : Nat → Nat → Nat → Prop} {t F : Nat} {X : Nat → Nat} {v b c : Nat} (h : Snd E t F X) (hE : E v b c) (hF : ∀ u, X u ≤ F) : Snd E t F (rl X v b c) := by
  refine ⟨?_, fun u hu => ?_⟩
  · have := rl_le (X := X) (v := v) (b := b) (c := c) t
    rw [h.1] at this; omega
  · have old : X u < F → rl X v b c u = X u → u = t ∨ ∃ b2 c2, E u b2 c2 ∧ rl X v b c b2 + c2 ≤ rl X v b c u := fun hlt e => by
      rcases h.2 u hlt with z | ⟨b2, c2, x, y⟩
      · exact Or.inl z
      · refine Or.inr ⟨b2, c2, x, ?_⟩
        have := rl_le (X := X) (v := v) (b := b) (c := c) b2
        omega
    by_cases e : u = v
    · subst e
      by_cases d : X b + c < X u
      · refine Or.inr ⟨b, c, hE, ?_⟩
        have h1 := rl_le (X := X) (v := u) (b := b) (c := c) b
        have h2 : rl X u b c u = X b + c := by unfold rl; rw [if_pos rfl]; omega
        omega
      · have h2 : rl X u b c u = X u := by unfold rl; rw [if_pos rfl]; omega
        exact old (by omega) h2
    · have h2 : rl X v b c u = X u := by unfold rl; rw [if_neg e]
      exact old (by omega) h2
def rlk (g : Nat → Nat → Nat → Bool) (wt e1 e2 : Nat → Nat) (l : Nat) (X : Nat → Nat) : Nat → Nat :=
  if g l (e2 l) (e1 l) then rl (if g l (e1 l) (e2 l) then rl X (e1 l) (e2 l) (wt l) else X) (e2 l) (e1 l) (wt l) else (if g l (e1 l) (e2 l) then rl X (e1 l) (e2 l) (wt l) else X)
def Ed (g : Nat → Nat → Nat → Bool) (wt e1 e2 : Nat → Nat) (L v b c : Nat) : Prop := ∃ l, l < L ∧ c = wt l ∧ g l v b = true ∧ ((v = e1 l ∧ b = e2 l) ∨ (v = e2 l ∧ b = e1 l))
theorem rlk_le {g : Nat → Nat → Nat → Bool} {wt e1 e2 : Nat → Nat} {l : Nat} {X : Nat → Nat} (u : Nat) : rlk g wt e1 e2 l X u ≤ X u := by
  unfold rlk
  split <;> split
  · exact Nat.le_trans (rl_le u) (rl_le u)
  · exact rl_le u
  · exact rl_le u
  · exact Nat.le_refl _
theorem rlk_edge {g : Nat → Nat → Nat → Bool} {wt e1 e2 : Nat → Nat} {l : Nat} {X : Nat → Nat} {v b : Nat} (hg : g l v b = true) (h : (v = e1 l ∧ b = e2 l) ∨ (v = e2 l ∧ b = e1 l)) : rlk g wt e1 e2 l X v ≤ X b + wt l := by
  rcases h with ⟨h1, h2⟩ | ⟨h1, h2⟩
  · subst h1; subst h2
    unfold rlk
    rw [if_pos hg]
    split
    · exact Nat.le_trans (rl_le _) rl_v
    · exact rl_v
  · subst h1; subst h2
    unfold rlk
    rw [if_pos hg]
    refine Nat.le_trans rl_v ?_
    split
    · have := rl_le (X := X) (v := e1 l) (b := e2 l) (c := wt l) (e1 l); omega
    · exact Nat.le_refl _
theorem rlk_snd {g : Nat → Nat → Nat → Bool} {wt e1 e2 : Nat → Nat} {L l t F : Nat} {X : Nat → Nat} (hl : l < L) (h : Snd (Ed g wt e1 e2 L) t F X) (hF : ∀ u, X u ≤ F) : Snd (Ed g wt e1 e2 L) t F (rlk g wt e1 e2 l X) := by
  unfold rlk
  have h1 : Snd (Ed g wt e1 e2 L) t F (if g l (e1 l) (e2 l) then rl X (e1 l) (e2 l) (wt l) else X) := by
    split
    · rename_i c; exact rl_snd h ⟨l, hl, rfl, c, Or.inl ⟨rfl, rfl⟩⟩ hF
    · exact h
  split
  · rename_i c
    refine rl_snd h1 ⟨l, hl, rfl, c, Or.inr ⟨rfl, rfl⟩⟩ (fun u => ?_)
    split
    · exact Nat.le_trans (rl_le u) (hF u)
    · exact hF u
  · exact h1
def rdF (g : Nat → Nat → Nat → Bool) (wt e1 e2 : Nat → Nat) : Nat → (Nat → Nat) → Nat → Nat
  | 0, X => X
  | j + 1, X => rlk g wt e1 e2 j (rdF g wt e1 e2 j X)
theorem rdF_le {g : Nat → Nat → Nat → Bool} {wt e1 e2 : Nat → Nat} {X : Nat → Nat} (u : Nat) : ∀ j, rdF g wt e1 e2 j X u ≤ X u := by
  intro j
  induction j with
  | zero => exact Nat.le_refl _
  | succ j ih => rw [rdF]; exact Nat.le_trans (rlk_le u) ih
theorem rdF_snd {g : Nat → Nat → Nat → Bool} {wt e1 e2 : Nat → Nat} {L t F : Nat} {X : Nat → Nat} (h : Snd (Ed g wt e1 e2 L) t F X) (hF : ∀ u, X u ≤ F) : ∀ j, j ≤ L → Snd (Ed g wt e1 e2 L) t F (rdF g wt e1 e2 j X) := by
  intro j
  induction j with
  | zero => intro _; exact h
  | succ j ih => intro hj; rw [rdF]; exact rlk_snd (by omega) (ih (by omega)) (fun u => Nat.le_trans (rdF_le u j) (hF u))
theorem rdF_edge {g : Nat → Nat → Nat → Bool} {wt e1 e2 : Nat → Nat} {X : Nat → Nat} {v b l : Nat} (hg : g l v b = true) (h : (v = e1 l ∧ b = e2 l) ∨ (v = e2 l ∧ b = e1 l)) : ∀ j, l < j → rdF g wt e1 e2 j X v ≤ X b + wt l := by
  intro j
  induction j with
  | zero => intro h; omega
  | succ j ih =>
    intro hj
    rw [rdF]
    by_cases e : l = j
    · subst e
      have := rlk_edge (wt := wt) (X := rdF g wt e1 e2 l X) hg h
      have := rdF_le (g := g) (wt := wt) (e1 := e1) (e2 := e2) (X := X) b l
      omega
    · exact Nat.le_trans (rlk_le v) (ih (by omega))
def itF (g : Nat → Nat → Nat → Bool) (wt e1 e2 : Nat → Nat) (L : Nat) (X : Nat → Nat) : Nat → Nat → Nat
  | 0 => X
  | i + 1 => rdF g wt e1 e2 L (itF g wt e1 e2 L X i)
theorem itF_le {g : Nat → Nat → Nat → Bool} {wt e1 e2 : Nat → Nat} {L : Nat} {X : Nat → Nat} (u : Nat) : ∀ i, itF g wt e1 e2 L X (i + 1) u ≤ itF g wt e1 e2 L X i u := fun i => rdF_le u L
theorem itF_mono {g : Nat → Nat → Nat → Bool} {wt e1 e2 : Nat → Nat} {L : Nat} {X : Nat → Nat} (u : Nat) : ∀ d i, itF g wt e1 e2 L X (i + d) u ≤ itF g wt e1 e2 L X i u := by
  intro d
  induction d with
  | zero => intro i; exact Nat.le_refl _
  | succ d ih => intro i; exact Nat.le_trans (itF_le u (i + d)) (ih i)
theorem itF_snd {g : Nat → Nat → Nat → Bool} {wt e1 e2 : Nat → Nat} {L t F : Nat} {X : Nat → Nat} (h : Snd (Ed g wt e1 e2 L) t F X) (hF : ∀ u, X u ≤ F) : ∀ i, Snd (Ed g wt e1 e2 L) t F (itF g wt e1 e2 L X i) := by
  intro i
  induction i with
  | zero => exact h
  | succ i ih => exact rdF_snd ih (fun u => by have := itF_mono (g := g) (wt := wt) (e1 := e1) (e2 := e2) (L := L) (X := X) u i 0; rw [Nat.zero_add] at this; exact Nat.le_trans this (hF u)) L (Nat.le_refl _)
theorem itF_edge {g : Nat → Nat → Nat → Bool} {wt e1 e2 : Nat → Nat} {L : Nat} {X : Nat → Nat} {v b c : Nat} (h : Ed g wt e1 e2 L v b c) (i : Nat) : itF g wt e1 e2 L X (i + 1) v ≤ itF g wt e1 e2 L X i b + c := by
  obtain ⟨l, h1, h2, h3, h4⟩ := h
  rw [h2]; exact rdF_edge h3 h4 L h1
/-- how many of the first n are not yet settled -/
def uns (X Y : Nat → Nat) : Nat → Nat
  | 0 => 0
  | n + 1 => uns X Y n + if Y n < X n then 1 else 0
theorem uns_lt {X X2 Y : Nat → Nat} (h : ∀ u, X2 u ≤ X u) {v : Nat} (hv : Y v < X v) (hv2 : ¬ Y v < X2 v) : ∀ n, uns X2 Y n ≤ uns X Y n ∧ (v < n → uns X2 Y n < uns X Y n) := by
  intro n
  induction n with
  | zero => exact ⟨Nat.le_refl _, fun h => by omega⟩
  | succ n ih =>
    rw [uns, uns]
    have hn := h n
    by_cases e : v = n
    · subst e
      rw [if_neg hv2, if_pos hv]; omega
    · refine ⟨?_, fun x => ?_⟩
      · have := ih.1
        split <;> split <;> omega
      · have := ih.2 (by omega)
        split <;> split <;> omega
theorem uns_0 {X Y : Nat → Nat} : ∀ n, uns X Y n = 0 → ∀ v, v < n → X v ≤ Y v := by
  intro n
  induction n with
  | zero => intro _ v hv; omega
  | succ n ih =>
    intro h v hv
    rw [uns] at h
    by_cases e : v = n
    · subst e
      split at h <;> omega
    · exact ih (by omega) v (by omega)
theorem uns_bd {X Y : Nat → Nat} {t : Nat} (ht : ¬ Y t < X t) : ∀ n, uns X Y n ≤ n ∧ (t < n → uns X Y n + 1 ≤ n) := by
  intro n
  induction n with
  | zero => exact ⟨Nat.le_refl _, fun h => by omega⟩
  | succ n ih =>
    rw [uns]
    by_cases e : t = n
    · subst e; rw [if_neg ht]; omega
    · refine ⟨?_, fun x => ?_⟩
      · split <;> omega
      · have := ih.2 (by omega)
        split <;> omega
/-- after 16 rounds over 16 nodes all is settled -/
theorem itF_cls {g : Nat → Nat → Nat → Bool} {wt e1 e2 : Nat → Nat} {L t F : Nat} {X : Nat → Nat} (h : Snd (Ed g wt e1 e2 L) t F X) (hF : ∀ u, X u ≤ F) (ht : t < 16) (hE : ∀ v b c, Ed g wt e1 e2 L v b c → v < 16 ∧ b < 16 ∧ 1 ≤ c) (hX : ∀ v, 16 ≤ v → X v = F) : Cls (Ed g wt e1 e2 L) (itF g wt e1 e2 L X 16) := by
  have hs := itF_snd h hF
  have step : ∀ i, i ≤ 15 → ∀ s v, v < 16 → itF g wt e1 e2 L X 16 v ≤ s → itF g wt e1 e2 L X 16 v < itF g wt e1 e2 L X i v → ∃ w, w < 16 ∧ itF g wt e1 e2 L X 16 w < itF g wt e1 e2 L X i w ∧ ¬ itF g wt e1 e2 L X 16 w < itF g wt e1 e2 L X (i + 1) w := by
    intro i hi s
    induction s with
    | zero =>
      intro v hv h0 hlt
      have hb := itF_mono (g := g) (wt := wt) (e1 := e1) (e2 := e2) (L := L) (X := X) v i 0
      rw [Nat.zero_add] at hb
      have hb2 := hF v
      have hb3 : itF g wt e1 e2 L X 0 v = X v := rfl
      rcases (hs 16).2 v (by omega) with z | ⟨b, c, x, y⟩
      · rw [z, (hs i).1] at hlt; omega
      · have := (hE _ _ _ x).2.2; omega
    | succ s ih =>
      intro v hv h0 hlt
      have hb := itF_mono (g := g) (wt := wt) (e1 := e1) (e2 := e2) (L := L) (X := X) v i 0
      rw [Nat.zero_add] at hb
      have hb2 := hF v
      have hb3 : itF g wt e1 e2 L X 0 v = X v := rfl
      rcases (hs 16).2 v (by omega) with z | ⟨b, c, x, y⟩
      · rw [z, (hs i).1] at hlt; omega
      · have hc := hE _ _ _ x
        by_cases d : itF g wt e1 e2 L X 16 b < itF g wt e1 e2 L X i b
        · exact ih b hc.2.1 (by omega) d
        · refine ⟨v, hv, hlt, ?_⟩
          have := itF_edge (X := X) x i
          omega
  have cnt : ∀ i, i ≤ 15 → uns (itF g wt e1 e2 L X i) (itF g wt e1 e2 L X 16) 16 + i ≤ 15 := by
    intro i
    induction i with
    | zero =>
      intro _
      have := (uns_bd (X := itF g wt e1 e2 L X 0) (Y := itF g wt e1 e2 L X 16) (t := t) (by rw [(hs 16).1, (hs 0).1]; omega) 16).2 ht
      omega
    | succ i ih =>
      intro hi
      have h1 := ih (by omega)
      by_cases d : uns (itF g wt e1 e2 L X i) (itF g wt e1 e2 L X 16) 16 = 0
      · have h2 := uns_0 16 d
        have : ∀ n, n ≤ 16 → uns (itF g wt e1 e2 L X (i + 1)) (itF g wt e1 e2 L X 16) n = 0 := by
          intro n
          induction n with
          | zero => intro _; rfl
          | succ n ihn =>
            intro hn
            rw [uns, ihn (by omega), if_neg]
            have := h2 n (by omega)
            have := itF_le (g := g) (wt := wt) (e1 := e1) (e2 := e2) (L := L) (X := X) n i
            omega
        rw [this 16 (Nat.le_refl _)]; omega
      · have hex : ∃ v, v < 16 ∧ itF g wt e1 e2 L X 16 v < itF g wt e1 e2 L X i v := by
          apply Classical.byContradiction
          intro hn
          apply d
          have : ∀ n, n ≤ 16 → uns (itF g wt e1 e2 L X i) (itF g wt e1 e2 L X 16) n = 0 := by
            intro n
            induction n with
            | zero => intro _; rfl
            | succ n ihn =>
              intro hnn
              rw [uns, ihn (by omega), if_neg (fun c => hn ⟨n, by omega, c⟩)]
          exact this 16 (Nat.le_refl _)
        obtain ⟨v, hv, hlt⟩ := hex
        obtain ⟨w, w1, w2, w3⟩ := step i (by omega) _ v hv (Nat.le_refl _) hlt
        have := (uns_lt (X := itF g wt e1 e2 L X i) (X2 := itF g wt e1 e2 L X (i + 1)) (Y := itF g wt e1 e2 L X 16) (fun u => itF_le u i) w2 w3 16).2 w1
        omega
  have h15 := uns_0 16 (show uns (itF g wt e1 e2 L X 15) (itF g wt e1 e2 L X 16) 16 = 0 by have := cnt 15 (by omega); omega)
  intro v b c hvb
  have h1 : itF g wt e1 e2 L X 16 v ≤ itF g wt e1 e2 L X 15 b + c := itF_edge (X := X) hvb 15
  have h2 := h15 b (hE _ _ _ hvb).2.1
  omega
/-- what is sound is no smaller than what is closed -/
theorem cls_snd {E : Nat → Nat → Nat → Prop} {t F : Nat} {X Y : Nat → Nat} (hE : ∀ v b c, E v b c → 1 ≤ c) (hX : ∀ v, X v ≤ F) (hY : ∀ v, Y v ≤ F) (hc : Cls E X) (ht : X t = 0) (hs : Snd E t F Y) : ∀ v, X v ≤ Y v := by
  have key : ∀ s v, Y v ≤ s → X v ≤ Y v := by
    intro s
    induction s with
    | zero =>
      intro v hv
      by_cases e : Y v = F
      · rw [e]; exact hX v
      · rcases hs.2 v (by have := hY v; omega) with z | ⟨b, c, x, y⟩
        · rw [z, ht]; omega
        · have := hE _ _ _ x; omega
    | succ s ih =>
      intro v hv
      by_cases e : Y v = F
      · rw [e]; exact hX v
      · rcases hs.2 v (by have := hY v; omega) with z | ⟨b, c, x, y⟩
        · rw [z, ht]; omega
        · have := hE _ _ _ x
          have h1 := ih b (by omega)
          have h2 := hc v b c x
          omega
  intro v
  exact key _ v (Nat.le_refl _)
