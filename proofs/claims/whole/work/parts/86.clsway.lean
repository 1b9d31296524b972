/-! ===== PHASE B: the class's ways are the reference's ===== -/
/-- 64 D + H into 100 D + H -/
def ph (x : Nat) : Nat := if x < 16777216 then 100 * (x / 64) + x % 64 else 1000000000
theorem ph_e {x : Nat} (h : x < 16777216) : ph x = 100 * (x / 64) + x % 64 := if_pos h
theorem ph_le (x : Nat) : ph x ≤ 1000000000 := by unfold ph; split <;> omega
theorem ph_lt {x : Nat} : ph x < 1000000000 ↔ x < 16777216 := by unfold ph; split <;> omega
theorem ph_mono {x y : Nat} (hx : x < 16777216) (hy : y < 16777216) (h1 : x % 64 ≤ 40) (h2 : y % 64 ≤ 40) : ph x < ph y ↔ x < y := by
  rw [ph_e hx, ph_e hy]; omega
theorem ph_add {x d : Nat} (hx : x < 1000000) (h1 : x % 64 ≤ 40) (hd : d ≤ 5000) : ph (x + (64 * d + 1)) = ph x + (100 * d + 1) ∧ ph (64 * d + x) = 100 * d + ph x := by
  rw [ph_e (by omega), ph_e (by omega), ph_e (by omega)]; omega
theorem EK_dh {A : Ab} (hs : WFs A) (ht : WFt A) {R : Nat} : ∀ v b c, EK A R v b c → 1 ≤ b ∧ b < 16 ∧ ∃ d, d ≤ 99 ∧ c = 64 * d + 1 := fun v b c h => by
  obtain ⟨_, h2, _, _, h4, l, _, _, _, h8, h9⟩ := EK_sp hs h
  refine ⟨?_, h2, A 3 l, h9, h8⟩
  apply Classical.byContradiction
  intro n
  have : b = 0 := by omega
  rw [this, ht.1] at h4
  omega
theorem Stl_sm {A : Ab} (hs : WFs A) (ht : WFt A) {R t : Nat} {X : Nat → Nat} (h : Stl A R t X) {v : Nat} (hv : X v < 16777216) : X v ≤ 95055 ∧ X v % 64 ≤ 15 := by
  obtain ⟨D, H, e1, e2, e3⟩ := dh_bd (EK_dh hs ht) h.1 h.2.1 _ v (Nat.le_refl _) hv
  have := lw_n X (X v) 15
  omega
theorem Stl_M {A : Ab} (hs : WFs A) (ht : WFt A) {R t : Nat} (ht16 : t < 16) (h0 : A 10 t = 0) {X : Nat → Nat} (h : Stl A R t X) {v : Nat} (hv : A 10 v = 0) : xM A R t v = ph (X v) := by
  obtain ⟨Y, hY⟩ : ∃ Y : Nat → Nat, Y = fun v => if A 10 v = 0 then ph (X v) else 1000000000 := ⟨_, rfl⟩
  have Yi : ∀ u, A 10 u = 0 → Y u = ph (X u) := fun u hu => by rw [hY]; exact if_pos hu
  have Yo : ∀ u, A 10 u ≠ 0 → Y u = 1000000000 := fun u hu => by rw [hY]; exact if_neg hu
  have Yb : ∀ u, Y u ≤ 1000000000 := fun u => by
    by_cases e : A 10 u = 0
    · rw [Yi u e]; exact ph_le _
    · rw [Yo u e]; exact Nat.le_refl _
  have hsnd : Snd (EM A R) t 1000000000 Y := by
    refine ⟨by rw [Yi t h0, h.1.1]; rfl, fun u hu => ?_⟩
    have u0 : A 10 u = 0 := by
      apply Classical.byContradiction
      intro n; rw [Yo u n] at hu; omega
    rw [Yi u u0] at hu ⊢
    have hu2 := ph_lt.mp hu
    rcases h.1.2 u hu2 with z | ⟨b, c, x, y⟩
    · exact Or.inl z
    · right
      obtain ⟨_, _, _, _, b0, l, q1, q2, q3, q4, q5⟩ := EK_sp hs x
      refine ⟨b, wM A l, EM_of q1 q2 q3 u0 b0, ?_⟩
      rw [Yi b b0]
      have g1 := Stl_sm hs ht h hu2
      have g2 := Stl_sm hs ht h (v := b) (by omega)
      rw [ph_e hu2, ph_e (by omega)]
      unfold wK at q4
      unfold wM
      omega
  have hcls : Cls (EM A R) Y := fun u b c x => by
    obtain ⟨_, _, u0, b0, l, q1, q2, q3, q4, q5⟩ := EM_sp hs x
    have hk := h.2.1 u b _ (EK_of q1 q2 q3 b0)
    rw [Yi u u0, Yi b b0]
    by_cases e : X b < 16777216
    · have g2 := Stl_sm hs ht h e
      unfold wK at hk
      have g1 := Stl_sm hs ht h (v := u) (by omega)
      rw [ph_e (by omega), ph_e e]
      unfold wM at q4
      omega
    · have : ph (X b) = 1000000000 := if_neg e
      have := ph_le (X u)
      omega
  have hE : ∀ u b c, EM A R u b c → 1 ≤ c := fun u b c x => by
    obtain ⟨_, _, _, _, l, _, _, _, q4, _⟩ := EM_sp hs x
    rw [q4]; unfold wM; omega
  obtain ⟨m1, m2, m3⟩ := xM_ok (A := A) (R := R) hs ht16
  have a := cls_snd hE m3 Yb m2 m1.1 hsnd v
  have b := cls_snd hE Yb m3 hcls hsnd.1 m1 v
  rw [Yi v hv] at a b
  omega
/-- who can go on -/
theorem cand {A : Ab} (hs : WFs A) (ht : WFt A) {R t : Nat} (ht16 : t < 16) (h0 : A 10 t = 0) {X : Nat → Nat} (h : Stl A R t X) {v u : Nat} (hc : cM A R (xM A R t) v u < 1000000000) : EK A R v u (wK A (lnk A v u)) ∧ X u < 16777216 ∧ A 10 u = 0 ∧ lq A v u = 1 ∧ lcK A R (lnk A v u) = wK A (lnk A v u) ∧ cM A R (xM A R t) v u = ph (X u + wK A (lnk A v u)) := by
  have h3 : A 10 u = 0 ∧ lq A v u = 1 ∧ A 8 (lnk A v u) = 1 ∧ R ≤ A 7 (lnk A v u) ∧ xM A R t u < 1000000000 := by
    apply Classical.byContradiction
    intro n
    unfold cM at hc
    rw [if_neg n] at hc
    omega
  obtain ⟨q1, q2, q3, q4, q5⟩ := h3
  have e := Stl_M hs ht ht16 h0 h q1
  rw [e] at q5
  have hx := ph_lt.mp q5
  have hl := lq_iff.mp q2
  have g := Stl_sm hs ht h hx
  have hd := hs.2.1 _ hl.1
  refine ⟨EK_of hl q3 q4 q1, hx, q1, q2, if_pos ⟨q3, q4⟩, ?_⟩
  unfold wK
  rw [(ph_add (by omega) (by omega) (by omega)).1]
  unfold cM
  rw [if_pos ⟨q1, q2, q3, q4, by rw [e]; exact q5⟩, e]
  rfl
theorem cand2 {A : Ab} (hs : WFs A) (ht : WFt A) {R t : Nat} (ht16 : t < 16) (h0 : A 10 t = 0) {X : Nat → Nat} (h : Stl A R t X) {v u l : Nat} (hl : Lk A v u l) (h8 : A 8 l = 1) (h7 : R ≤ A 7 l) (hu : A 10 u = 0) (hx : X u < 16777216) : cM A R (xM A R t) v u = ph (X u + wK A l) := by
  have e := Stl_M hs ht ht16 h0 h hu
  have g := Stl_sm hs ht h hx
  have hd := hs.2.1 _ hl.1
  unfold wK
  rw [(ph_add (by omega) (by omega) (by omega)).1]
  unfold cM
  rw [lnk_e hs hl, if_pos ⟨hu, lq_of hs hl, h8, h7, by rw [e]; exact ph_lt.mpr hx⟩, e]
  rfl
theorem bst {A : Ab} (hs : WFs A) (ht : WFt A) {R t : Nat} (ht16 : t < 16) (h0 : A 10 t = 0) {X : Nat → Nat} (h : Stl A R t X) {v : Nat} (hv : v ≠ t) : (X v < 16777216 ↔ onw A R (xM A R t) v ≠ 99) ∧ (X v < 16777216 → (am (cM A R (xM A R t) v) 1000000000 (A 0 0)).2 = ph (X v)) := by
  have hN := hs.1
  have fw : X v < 16777216 → onw A R (xM A R t) v ≠ 99 ∧ (am (cM A R (xM A R t) v) 1000000000 (A 0 0)).2 = ph (X v) := fun hx => by
    rcases h.1.2 v hx with z | ⟨b, c, x, y⟩
    · exact absurd z hv
    · obtain ⟨p1, p2, p3, p4, b0, l, q1, q2, q3, q4, q5⟩ := EK_sp hs x
      have hle := h.2.1 v b c x
      have hcb := cand2 hs ht ht16 h0 h q1 q2 q3 b0 (by omega)
      rw [← q4, show X b + c = X v by omega] at hcb
      have gv := Stl_sm hs ht h hx
      have hall : ∀ u, u < A 0 0 → ph (X v) ≤ cM A R (xM A R t) v u := fun u hu => by
        by_cases e : cM A R (xM A R t) v u < 1000000000
        · obtain ⟨e1, e2, e3, e4, e5, e6⟩ := cand hs ht ht16 h0 h e
          have hk := h.2.1 v u _ e1
          have gu := Stl_sm hs ht h e2
          have hd := hs.2.1 _ (lq_iff.mp e4).1
          rw [e6]
          unfold wK at hk ⊢
          rw [ph_e hx, ph_e (by omega)]
          omega
        · have := ph_le (X v); omega
      have hlt := ph_lt.mpr hx
      rcases am_sp (c := cM A R (xM A R t) v) (F := 1000000000) (A 0 0) with ⟨a, b9⟩ | ⟨a1, a2, a3, a4, a5⟩
      · have := b9 b p4; omega
      · have a6 := hall _ a1
        have a7 := a4 b p4
        refine ⟨fun e => ?_, by omega⟩
        have e : (am (cM A R (xM A R t) v) 1000000000 (A 0 0)).1 = 99 := e
        omega
  refine ⟨⟨fun hx => (fw hx).1, fun e => ?_⟩, fun hx => (fw hx).2⟩
  have hsp := onw_sp e
  have hc : cM A R (xM A R t) v (onw A R (xM A R t) v) < 1000000000 := by
    have h9 := hsp.2.2.2.2.2.2
    have : cM A R (xM A R t) v (onw A R (xM A R t) v) = xM A R t (onw A R (xM A R t) v) + wM A (lnk A v (onw A R (xM A R t) v)) := if_pos ⟨hsp.2.1, hsp.2.2.1, hsp.2.2.2.1, hsp.2.2.2.2.1, hsp.2.2.2.2.2.1⟩
    omega
  obtain ⟨e1, e2, e3, e4, e5, e6⟩ := cand hs ht ht16 h0 h hc
  have hk := h.2.1 v _ _ e1
  have g := Stl_sm hs ht h e2
  have hd := hs.2.1 _ (lq_iff.mp e4).1
  unfold wK at hk
  omega
/-- the delay of a node, in the class -/
theorem RK.up {A : Ab} {s : Nat → Nat} {Q : Nat} {k : St} (hA : WF A) (hK : RK A s Q k) {n : Nat} (hn : inT A n) (h0 : n ≠ 0) : gt k 29 n = nI (upn A n) := by
  rw [hK.par hn.1, pK_up hA.1 hA.2.1 hn h0]
theorem lnk_up {A : Ab} (hA : WF A) {n : Nat} (hn : inT A n) (h0 : n ≠ 0) : upn A n < 16 ∧ inT A (upn A n) ∧ lq A (upn A n) n = 1 ∧ lnk A (upn A n) n = lnk A n (upn A n) ∧ lnk A n (upn A n) < A 0 1 := by
  have hN := hA.1.1
  obtain ⟨_, _, h3, h4, _, l, hl⟩ := inT_up hA.1 hA.2.1 hn h0
  have := lnk_sym hA.1 hl
  exact ⟨by omega, h3, this.2, this.1, by rw [lnk_e hA.1 hl]; exact hl.1⟩
theorem Sp_delayTo_e {A : Ab} {s : Nat → Nat} {Q : Nat} {k : St} (hA : WF A) (hK : RK A s Q k) {n : Nat} (hn : inT A n) : Sp_delayTo k (nI n) = some (nI (dl A n)) := by
  have hs := hA.1
  have ht := hA.2.1
  have hN := hs.1
  have key : ∀ n, inT A n → ∀ (f c i : Nat), dep A n < f → dep A n + i ≤ 15 → Sp_delayTo_L7 k f (nI c) (nI n) (nI i) = some (nI (c + dl A n)) := by
    refine up_ind hs ht (fun f c i hf hi => ?_) (fun n hn h0 hu ih f c i hf hi => ?_)
    · cases f with
      | zero => omega
      | succ f =>
        rw [Sp_delayTo_L7]; unfold Sp_delayTo_B7
        rw [li16, li0]
        simp (disch := omega) only [b1_some, b2_some, lt_e, rd_n, wr_n, nI_add, pk_mul, nI_leI, nI_ltI, nI_eq, nI_1]
        rw [if_neg (by omega), if_pos (by omega)]
        rfl
    · cases f with
      | zero => omega
      | succ f =>
        have hd := dep_up hs ht hn h0
        have hn16 := hn.1
        obtain ⟨u1, u2, u3, u4, u5⟩ := lnk_up hA hn h0
        rw [Sp_delayTo_L7]; unfold Sp_delayTo_B7
        rw [li16, li0]
        simp (disch := omega) only [b1_some, b2_some, lt_e, rd_n, wr_n, nI_add, pk_mul, nI_leI, nI_ltI, nI_eq, nI_1, hK.up hA hn h0]
        rw [if_neg (by omega), if_neg (by omega), if_neg (nI_neg1 (by omega))]
        rw [hK.at u1 hn16, if_pos u3, u4]
        unfold Sp_delayTo_J54
        rw [if_neg (nI_neg1 (by omega))]
        simp (disch := omega) only [b1_some, b2_some, lt_e, rd_n, wr_n, nI_add, pk_mul, nI_leI, nI_ltI, nI_eq, nI_1, hK.dl u5]
        rw [ih f _ (i + 1) (by omega) (by omega), dl_up hs ht hn h0, Nat.add_assoc]
  unfold Sp_delayTo
  have hd := (dep_le hs ht hn).1
  have := key n hn FU 0 0 (by rw [FU_e]; omega) (by omega)
  rw [Nat.zero_add] at this
  exact this
def cF (A : Ab) (X : Nat → Nat) (v : Nat) : Nat := if A 10 v ≠ 0 ∧ X v < 16777216 then 64 * dl A v + X v else 16777216
theorem frs_K {A : Ab} (hs : WFs A) (ht : WFt A) {R t : Nat} (ht16 : t < 16) (h0 : A 10 t = 0) {X : Nat → Nat} (h : Stl A R t X) : (am (cF A X) 16777216 (A 0 0)).1 = frs A R (xM A R t) := by
  have hN := hs.1
  have hne : ∀ v, A 10 v ≠ 0 → v ≠ t := fun v hv e => hv (by rw [e]; exact h0)
  have both : ∀ v, v < A 0 0 → (cF A X v < 16777216 ↔ A 10 v ≠ 0 ∧ X v < 16777216) ∧ (cF A X v < 16777216 → cF A X v < 1000000 ∧ cF A X v % 64 ≤ 15 ∧ cL A R (xM A R t) v = ph (cF A X v)) ∧ (cL A R (xM A R t) v < 1000000000 → cF A X v < 16777216) := fun v hv => by
    by_cases e : A 10 v ≠ 0 ∧ X v < 16777216
    · have hb := bst hs ht ht16 h0 h (hne v e.1)
      have hin : inT A v := ⟨by omega, e.1⟩
      have hdl := dl_le hs ht v hin
      have hdp := (dep_le hs ht hin).1
      have g := Stl_sm hs ht h e.2
      have e1 : cF A X v = 64 * dl A v + X v := if_pos e
      have e2 : cL A R (xM A R t) v = 100 * dl A v + ph (X v) := by
        unfold cL; rw [if_pos ⟨e.1, hb.1.mp e.2⟩, hb.2 e.2]
      rw [e1, e2]
      refine ⟨⟨fun _ => e, fun _ => by omega⟩, fun _ => ⟨by omega, by omega, ?_⟩, fun _ => by omega⟩
      rw [(ph_add (by omega) (by omega) (by omega)).2]
    · have e1 : cF A X v = 16777216 := if_neg e
      rw [e1]
      refine ⟨⟨fun z => by omega, fun z => absurd z e⟩, fun z => by omega, fun z => ?_⟩
      exfalso
      have : ¬ (A 10 v ≠ 0 ∧ onw A R (xM A R t) v ≠ 99) := fun w => e ⟨w.1, (bst hs ht ht16 h0 h (hne v w.1)).1.mpr w.2⟩
      unfold cL at z
      rw [if_neg this] at z
      omega
  refine am_iso (fun u hu => ⟨fun z => ?_, fun z => (both u hu).2.2 z⟩) (fun u w hu hw zu zw => ?_)
  · have b := (both u hu).2.1 z
    rw [b.2.2]; exact ph_lt.mpr z
  · have b := (both u hu).2.1 zu
    have d := (both w hw).2.1 zw
    rw [b.2.2, d.2.2]
    exact (ph_mono zu zw (by omega) (by omega)).symm
def bJ (b : Nat) : Int32 := if b = 99 then -1 else nI b
theorem first7 {A : Ab} {s : Nat → Nat} {Q : Nat} {k : St} (hA : WF A) (hK : RK A s Q k) {R t : Nat} {X : Nat → Nat} (hX : RY X k) (h : Stl A R t X) : ∀ (fu v : Nat), v ≤ A 0 0 → A 0 0 < v + fu → Gr_firstNode_L7 k fu (bJ (am (cF A X) 16777216 v).1) (nI (am (cF A X) 16777216 v).2) (nI v) = some (bJ (am (cF A X) 16777216 (A 0 0)).1) := by
  have hN := hA.1.1
  intro fu
  induction fu with
  | zero => intro u h1 h2; omega
  | succ fu ih =>
    intro v h1 h2
    rw [Gr_firstNode_L7]; unfold Gr_firstNode_B7
    rw [hK.n0]
    simp (disch := omega) only [b1_some, b2_some, lt_e, rd_n, wr_n, nI_add, pk_mul, nI_leI, nI_ltI, nI_eq, nI_1]
    by_cases e : v < A 0 0
    · rw [if_neg (by omega)]
      have nx := ih (v + 1) (by omega) (by omega)
      have hle := am_2 (c := cF A X) (F := 16777216) v
      have skip : 16777216 ≤ cF A X v ∨ (am (cF A X) 16777216 v).2 ≤ cF A X v → Gr_firstNode_L7 k fu (bJ (am (cF A X) 16777216 v).1) (nI (am (cF A X) 16777216 v).2) (nI (v + 1)) = some (bJ (am (cF A X) 16777216 (A 0 0)).1) := fun q => by
        rw [am, if_neg (by rcases q with q | q <;> omega)] at nx
        exact nx
      simp (disch := omega) only [b1_some, b2_some, lt_e, rd_n, wr_n, nI_add, pk_mul, nI_leI, nI_ltI, nI_eq, nI_1, hK.tin, hX v (by omega)]
      by_cases c1 : A 10 v = 0
      · rw [if_pos c1, if_pos rfl]
        exact skip (Or.inl (by unfold cF; rw [if_neg (fun z => z.1 c1)]; exact Nat.le_refl _))
      · rw [if_neg c1, if_neg (by decide)]
        have hxb := h.2.2 v
        rw [li_unr]
        simp (disch := omega) only [b1_some, b2_some, lt_e, rd_n, wr_n, nI_add, pk_mul, nI_leI, nI_ltI, nI_eq, nI_1]
        by_cases c2 : X v < 16777216
        · have hin : inT A v := ⟨by omega, c1⟩
          have hdl := dl_le hA.1 hA.2.1 v hin
          have hdp := (dep_le hA.1 hA.2.1 hin).1
          have g := Stl_sm hA.1 hA.2.1 h c2
          have hcost : cF A X v = 64 * dl A v + X v := if_pos ⟨c1, c2⟩
          rw [if_neg (by omega), Sp_delayTo_e hA hK hin, li64]
          simp (disch := omega) only [b1_some, b2_some, lt_e, rd_n, wr_n, nI_add, pk_mul, nI_leI, nI_ltI, nI_eq, nI_1]
          by_cases c5 : (am (cF A X) 16777216 v).2 ≤ dl A v * 64 + X v
          · rw [if_pos c5]; exact skip (Or.inr (by omega))
          · rw [if_neg c5]
            rw [am, if_pos (by omega)] at nx
            have nx : Gr_firstNode_L7 k fu (bJ v) (nI (cF A X v)) (nI (v + 1)) = some (bJ (am (cF A X) 16777216 (A 0 0)).1) := nx
            rw [show bJ v = nI v from if_neg (by omega), hcost, Nat.mul_comm 64] at nx
            exact nx
        · rw [if_pos (by omega)]
          exact skip (Or.inl (by unfold cF; rw [if_neg (fun z => c2 z.2)]; exact Nat.le_refl _))
    · rw [if_pos (by omega)]
      have : v = A 0 0 := by omega
      subst this
      rfl
theorem Gr_firstNode_e {A : Ab} {s : Nat → Nat} {Q : Nat} {k : St} (hA : WF A) (hK : RK A s Q k) {R t : Nat} (ht16 : t < 16) (h0 : A 10 t = 0) {X : Nat → Nat} (hX : RY X k) (h : Stl A R t X) : Gr_firstNode k = some (bJ (frs A R (xM A R t))) := by
  have hN := hA.1.1
  unfold Gr_firstNode
  have := first7 hA hK hX h FU 0 (by omega) (by rw [FU_e]; omega)
  rw [frs_K hA.1 hA.2.1 ht16 h0 h] at this
  exact this
theorem Gr_nextNode_e {A : Ab} {s : Nat → Nat} {Q : Nat} {k : St} (hA : WF A) (hK : RK A s Q k) {R t : Nat} (ht16 : t < 16) (h0 : A 10 t = 0) {X : Nat → Nat} (hX : RY X k) (hL : RLk A R k) (h : Stl A R t X) {v : Nat} (hv : v < 16) (hvt : v ≠ t) (hx : X v < 16777216) : Gr_nextNode k (nI v) = some (nI (onw A R (xM A R t) v)) := by
  have hs := hA.1
  have ht := hA.2.1
  have hN := hs.1
  obtain ⟨b1', b2'⟩ := bst hs ht ht16 h0 h hvt
  have hne := b1'.mp hx
  have hB := b2' hx
  have gv := Stl_sm hs ht h hx
  rcases am_sp (c := cM A R (xM A R t) v) (F := 1000000000) (A 0 0) with ⟨a, b9⟩ | ⟨a1, a2, a3, a4, a5⟩
  · exact absurd (show (am (cM A R (xM A R t) v) 1000000000 (A 0 0)).1 = 99 by rw [a]) hne
  · obtain ⟨o, ho⟩ : ∃ o, o = onw A R (xM A R t) v := ⟨_, rfl⟩
    have ho' : (am (cM A R (xM A R t) v) 1000000000 (A 0 0)).1 = o := ho.symm
    rw [ho'] at a1 a2 a5
    rw [hB] at a2 a3 a4 a5
    rw [← ho]
    have hco : cM A R (xM A R t) v o < 1000000000 := by omega
    obtain ⟨e1, e2, e3, e4, e5, e6⟩ := cand hs ht ht16 h0 h hco
    have go := Stl_sm hs ht h e2
    have hd := hs.2.1 _ (lq_iff.mp e4).1
    have heq : X o + lcK A R (lnk A v o) = X v := by
      rw [e5]
      rw [e6] at a2
      unfold wK at a2 ⊢
      rw [ph_e hx, ph_e (by omega)] at a2
      omega
    have key : ∀ (fu u : Nat), u ≤ o → o < u + fu → Gr_nextNode_L2 k fu (nI v) (nI u) = some (nI o) := by
      intro fu
      induction fu with
      | zero => intro u h1 h2; omega
      | succ fu ih =>
        intro u h1 h2
        rw [Gr_nextNode_L2]; unfold Gr_nextNode_B2
        rw [hK.n0, li16]
        simp (disch := omega) only [b1_some, b2_some, lt_e, rd_n, wr_n, nI_add, pk_mul, nI_leI, nI_ltI, nI_eq, nI_1]
        rw [if_neg (by omega), hK.at hv (by omega)]
        by_cases e : u = o
        · have hl := (lq_iff.mp e4).1
          rw [e, if_pos e4, if_neg (nI_neg1 (by omega))]
          simp (disch := omega) only [b1_some, b2_some, lt_e, rd_n, wr_n, nI_add, pk_mul, nI_leI, nI_ltI, nI_eq, nI_1, hK.tin, hX o (by omega), hX v hv, hL _ hl]
          rw [if_pos e3, if_pos rfl]
          rw [if_pos heq]
        · have nx := ih (u + 1) (by omega) (by omega)
          by_cases c1 : lq A v u = 1
          · have hl := (lq_iff.mp c1).1
            have hlb : lcK A R (lnk A v u) ≤ 16777216 := by
              have := hs.2.1 _ hl
              unfold lcK wK; split <;> omega
            have hxu := h.2.2 u
            rw [if_pos c1, if_neg (nI_neg1 (by omega))]
            simp (disch := omega) only [b1_some, b2_some, lt_e, rd_n, wr_n, nI_add, pk_mul, nI_leI, nI_ltI, nI_eq, nI_1, hK.tin, hX u (by omega), hX v hv, hL _ hl]
            by_cases c2 : A 10 u = 0
            · rw [if_pos c2, if_pos rfl]
              rw [if_neg (fun z => ?_)]
              · exact nx
              · have us := (lcK_lt (R := R) hA hl).mp (by omega)
                have hcu := cand2 hs ht ht16 h0 h (lq_iff.mp c1) us.1 us.2 c2 (by omega)
                have : lcK A R (lnk A v u) = wK A (lnk A v u) := if_pos us
                rw [← this, z] at hcu
                have := a5 u (by omega)
                omega
            · rw [if_neg c2, if_neg (by decide)]
              exact nx
          · rw [if_neg c1, if_pos rfl]
            exact nx
    unfold Gr_nextNode
    exact key FU 0 (by omega) (by rw [FU_e]; omega)
/-- the path, as the class lays it -/
def RPK (p : Nat → Nat) (n : Nat) (k : St) : Prop := gt k 161 6 = nI (n + 1) ∧ ∀ i, i ≤ n → gt k 164 i = nI (p i)
theorem find62 {A : Ab} {s : Nat → Nat} {Q : Nat} (hA : WF A) {R t n : Nat} {p : Nat → Nat} (ht16 : t < 16) (h0 : A 10 t = 0) {X : Nat → Nat} (h : Stl A R t X) (hw : Way A R t n p) (kk : St → Option (Int32 × St)) : ∀ (fu i : Nat) (k : St), RK A s Q k → RY X k → RLk A R k → gt k 161 6 = nI i → (∀ j, j < i → gt k 164 j = nI (p j)) → i ≤ n → n + 1 < i + fu → ∃ k2, Gr_findPath_L62 kk fu (nI t) (nI (p i)) (nI i) k = kk k2 ∧ F6 k k2 ∧ RPK p n k2 := by
  have hN := hA.1.1
  have hn15 := hw.2.2.2.2.1
  intro fu
  induction fu with
  | zero => intro i k _ _ _ _ _ h1 h2; omega
  | succ fu ih =>
    intro i k hK hX hL hlen hP h1 h2
    have hpi : p i < 16 := by have := way_bd hA.1 hA.2.1 hw i h1; omega
    rw [Gr_findPath_L62]; unfold Gr_findPath_B62
    rw [li16]
    simp (disch := omega) only [b1_some, b2_some, lt_e, rd_n, wr_n, nI_add, pk_mul, nI_leI, nI_ltI, nI_eq, nI_1]
    rw [if_neg (by omega), if_neg (nI_neg1 (by omega))]
    have hF : F6 k (st (st k 164 i (nI (p i))) 161 6 (nI (i + 1))) := (F6.st (by omega)).tr (F6.st (by omega))
    have hPc : ∀ j, j ≤ i → gt (st (st k 164 i (nI (p i))) 161 6 (nI (i + 1))) 164 j = nI (p j) := fun j hj => by
      rw [gt_st_k (by omega)]
      by_cases d : j = i
      · rw [d, gt_st_same]
      · rw [gt_st_i d]; exact hP j (by omega)
    have hlc : gt (st (st k 164 i (nI (p i))) 161 6 (nI (i + 1))) 161 6 = nI (i + 1) := gt_st_same
    by_cases e : i = n
    · rw [if_pos (by rw [e]; exact hw.2.2.2.2.2.1)]
      cases fu with
      | zero => omega
      | succ fu =>
        rw [Gr_findPath_L62]; unfold Gr_findPath_B62
        refine ⟨_, ?_, hF, ?_⟩
        · split
          · rfl
          · rw [if_pos rfl]
        · rw [← e]; exact ⟨hlc, hPc⟩
    · have hi : i < n := by omega
      have hne := hw.2.2.2.2.2.2.1 i hi
      have hs9 := hw.2.2.2.2.2.2.2.2 i hi
      rw [if_neg hne]
      have hK2 := hF.s.rk hK
      have hX2 : RY X (st (st k 164 i (nI (p i))) 161 6 (nI (i + 1))) := fun v hv => by rw [gt_st_k (by omega), gt_st_k (by omega)]; exact hX v hv
      have hL2 : RLk A R (st (st k 164 i (nI (p i))) 161 6 (nI (i + 1))) := fun l hl => by rw [gt_st_k (by omega), gt_st_k (by omega)]; exact hL l hl
      have hxp : X (p i) < 16777216 := (bst hA.1 hA.2.1 ht16 h0 h hne).1.mpr hs9.1
      rw [Gr_nextNode_e hA hK2 ht16 h0 hX2 hL2 h hpi hne hxp, b1_some, ← hw.2.2.1 i]
      obtain ⟨k2, g1, g2, g3⟩ := ih (i + 1) _ hK2 hX2 hL2 hlc (fun j hj => hPc j (by omega)) (by omega) (by omega)
      exact ⟨k2, g1, hF.tr g2, g3⟩
theorem Gr_findPath_e {A : Ab} {s : Nat → Nat} {Q : Nat} {k : St} (hA : WF A) (hK : RK A s Q k) {R t : Nat} (hb : R < 2 ^ 30) (ht16 : t < 16) (h0 : A 10 t = 0) : (frs A R (xM A R t) = 99 ∧ ∃ k2, Gr_findPath k (nI t) (nI R) = some (0, k2) ∧ FS k k2) ∨ (∃ n, Way A R t n (pth A R (xM A R t) (frs A R (xM A R t))) ∧ ∃ k2, Gr_findPath k (nI t) (nI R) = some (1, k2) ∧ FS k k2 ∧ RPK (pth A R (xM A R t) (frs A R (xM A R t))) n k2) := by
  have hN := hA.1.1
  unfold Gr_findPath
  obtain ⟨k1, a1, a2, a3⟩ := weigh2 hA hb FU 0 k hK (fun l hl => by omega) (by omega) (by rw [FU_e]; omega)
  have a1 : Gr_weighLinks k (nI R) = some k1 := a1
  rw [a1, b1_some]
  obtain ⟨k2, b1', b2', b3', b4'⟩ := J_fill_e (len := 16) (p := 163) (v := (16777216 : Int32)) k1 (by omega)
  rw [b1', b1_some, wr_n ht16 (by omega), b1_some]
  have hF2 : F6 k1 k2 := ⟨fun j x y z w => b2' j z, b3'⟩
  have hF3 : F6 k (st k2 163 t 0) := (a2.tr hF2).tr (F6.st (by omega))
  have hK3 := hF3.s.rk hK
  have hX3 : RY (iK A R t 0) (st k2 163 t 0) := fun v hv => by
    show _ = nI (x0 16777216 t v)
    unfold x0
    by_cases e : v = t
    · rw [if_pos e, e, gt_st_same]; rfl
    · rw [if_neg e, gt_st_i e, b4' v hv]; rfl
  have hL3 : RLk A R (st k2 163 t 0) := fun l hl => by rw [gt_st_k (by omega), gt_e, b2' 162 (by omega)]; exact a3 l hl
  obtain ⟨k4, X, c1, c2, c3, c4, c5⟩ := find26 hA ht16 (fun y8 q9 => Gr_findPath_J48 y8 q9) FU 0 1 _ hK3 hL3 hX3 (by omega) (by rw [FU_e]; omega) (by omega) (fun z => by omega)
  rw [show nI 1 = 1 from rfl, show nI 0 = 0 from rfl] at c1
  rw [c1]
  unfold Gr_findPath_J48
  have hF5 : F6 k (st k4 161 6 0) := (hF3.tr c2).tr (F6.st (by omega))
  have hK5 := hF5.s.rk hK
  have hX5 : RY X (st k4 161 6 0) := fun v hv => by rw [gt_st_k (by omega)]; exact c4 v hv
  have hL5 : RLk A R (st k4 161 6 0) := fun l hl => by rw [gt_st_k (by omega)]; exact c3 l hl
  rw [lt_e, Gr_firstNode_e hA hK5 ht16 h0 hX5 c5, b1_some]
  by_cases e : frs A R (xM A R t) = 99
  · refine Or.inl ⟨e, _, ?_, hF5.s⟩
    rw [show bJ (frs A R (xM A R t)) = -1 from if_pos e, show FU = 3999 + 1 from rfl, Gr_findPath_L62]
    unfold Gr_findPath_B62 Gr_findPath_J116
    rw [if_neg (by decide), if_pos rfl]
    show (if gt (st k4 161 6 0) 161 6 ≤ (0 : Int32) then some ((0 : Int32), st k4 161 6 0) else some (1, st k4 161 6 0)) = some (0, st k4 161 6 0)
    rw [gt_st_same, if_pos (by decide)]
  · obtain ⟨n, hw⟩ := way_ex hA.1 hA.2.1 ht16 h0 e
    refine Or.inr ⟨n, hw, ?_⟩
    have hn15 := hw.2.2.2.2.1
    rw [show bJ (frs A R (xM A R t)) = nI (pth A R (xM A R t) (frs A R (xM A R t)) 0) from if_neg e]
    obtain ⟨k6, d1, d2, d3⟩ := find62 hA ht16 h0 c5 hw (fun q18 => Gr_findPath_J116 q18) FU 0 _ hK5 hX5 hL5 (by rw [gt_st_same]; rfl) (fun j hj => by omega) (by omega) (by rw [FU_e]; omega)
    rw [show nI 0 = 0 from rfl] at d1
    rw [d1]
    refine ⟨k6, ?_, (hF5.tr d2).s, d3⟩
    unfold Gr_findPath_J116
    rw [d3.1, li0]
    simp (disch := omega) only [b1_some, b2_some, lt_e, rd_n, wr_n, nI_add, pk_mul, nI_leI, nI_ltI, nI_eq, nI_1]
    rw [if_neg (by omega)]
