/-! ===== PHASE B: the start, and all steps ===== -/
def aI : Ab := fun a j => if a = 0 ∧ j = 0 then 2 else if a = 6 ∧ j = 0 then 1 else 0
theorem aI_z {a j : Nat} (h1 : a ≠ 0 ∨ j ≠ 0) (h2 : a ≠ 6 ∨ j ≠ 0) : aI a j = 0 := by
  unfold aI; rw [if_neg (by omega), if_neg (by omega)]
theorem aI_00 : aI 0 0 = 2 := rfl
theorem aI_01 : aI 0 1 = 0 := rfl
theorem aI_6 {f j : Nat} (hf : f < 1) (hj : j < 1) : aI 6 (5 * f + j) = 1 := by
  have : 5 * f + j = 0 := by omega
  rw [this]; rfl
theorem aI_WX : WX aI 1 1 := by
  have nl : ∀ a b l, ¬ Lk aI a b l := fun a b l z => by have := z.1; rw [aI_01] at this; omega
  exact ⟨⟨by rw [aI_00, aI_01]; omega, fun l hl => by rw [aI_01] at hl; omega, fun a b l l2 z => absurd z (nl a b l), fun n hn => by rw [aI_z (by omega) (by omega)]; omega⟩, fun f hf => by rw [aI_z (by omega) (by omega)]; omega, fun f j hf hj => by rw [aI_6 hf hj]; omega, by omega⟩
theorem q0K_g {j i : Nat} (h : 0 < j) : gt q0K j i = 0 := by rw [gt_e, q0K_at h]
theorem K_init_e : ∃ qk, K_init = some qk ∧ RK (fin aI 1 1) sI (fin aI 1 1 0 4) qk ∧ ∀ j, j = 0 ∨ j = 18 ∨ 29 < j → qk.1 j = q0K.1 j := by
  unfold K_init Su_makeSmallest
  obtain ⟨k1, a1, a2, a3, a4, a5⟩ := clear_e 1 q0K
  have nl : ∀ a b l, ¬ Lk aI a b l := fun a b l z => by have := z.1; rw [aI_01] at this; omega
  have g9 : ∀ i, gt k1 9 i = 0 := fun i => by rw [gt_e, a5 9 (by omega) (by omega) (by omega)]; exact q0K_g (by omega)
  rw [a1, b1_some, lt_e, lt_e, lt_e]
  unfold Su_putRate
  rw [show (0 : Int32) * 6 + 1 = nI 1 by decide, lt_e, show nI 1 - 1 = nI 0 by decide, rd_n (by omega) (by omega), b1_some, show (1 + 8 : Nat) = 9 from rfl, gt_st_k (show 9 ≠ 1 by omega), gt_st_k (show 9 ≠ 1 by omega), gt_st_k (show 9 ≠ 1 by omega), g9, show (0 : Int32) + 1 = 1 by decide, wr_n (by omega) (by omega), b1_some, b1_some, b1_some]
  obtain ⟨k5, hk5⟩ : ∃ k5, k5 = st (st (st (st k1 1 0 2) 1 2 1) 1 3 1) 9 1 1 := ⟨_, rfl⟩
  rw [← hk5]
  have r5 : ∀ j, j ≠ 1 → j ≠ 9 → k5.1 j = k1.1 j := fun j x y => by rw [hk5, st_row_ne y, st_row_ne x, st_row_ne x, st_row_ne x]
  have hS : SK aI 1 1 k5 1 := by
    refine ⟨⟨?_, ?_, ?_, ?_⟩, fun l hl => by rw [aI_01] at hl; omega, fun a b ha hb => ⟨fun l z => absurd z (nl a b l), fun _ => ?_⟩, fun n hn => ?_, fun f p q => by omega, fun f j p q => ?_⟩
    · rw [hk5, gt_st_k (by omega), gt_st_i (by omega), gt_st_i (by omega), gt_st_same]; rfl
    · rw [hk5, gt_st_k (by omega), gt_st_i (by omega), gt_st_i (by omega), gt_st_i (by omega), a2 1 (by omega)]; rfl
    · rw [hk5, gt_st_k (by omega), gt_st_i (by omega), gt_st_same]; rfl
    · rw [hk5, gt_st_k (by omega), gt_st_same]; rfl
    · rw [gt_e, r5 _ (by omega) (by omega)]; exact a3 _ (by omega)
    · rw [gt_e, r5 _ (by omega) (by omega), aI_z (by omega) (by omega)]; exact a4 _ (by omega)
    · have hf : f = 0 := by omega
      subst hf
      show gt k5 9 (0 * 6 + j) = _
      by_cases c : j = 0
      · rw [c, hk5, gt_st_i (by omega), gt_st_k (by omega), gt_st_k (by omega), gt_st_k (by omega), g9]; rfl
      · have : j = 1 := by omega
        rw [this, hk5, gt_st_same]; rfl
  obtain ⟨k6, f1, f2, f3⟩ := begin_rk aI_WX hS (fun i hi => Or.inl (by rw [gt_e, r5 _ (by omega) (by omega), a5 24 (by omega) (by omega) (by omega)]; exact q0K_g (by omega)))
  exact ⟨k6, f1, f2, fun j hj => by rw [f3 j (by omega), r5 j (by omega) (by omega), a5 j (by omega) (by omega) (by omega)]⟩
theorem M_init_e : ∃ qm, M_init = some qm ∧ RM (fin aI 1 1) qm ∧ gt qm 0 15 = 0 ∧ ∀ i, i = 1 ∨ i = 2 → qm.1 0 i = q0M.1 0 i := by
  unfold M_init
  obtain ⟨m1, b1', b2', b3', b4', b5'⟩ := M_defaults_e q0M
  rw [b1', b1_some, show wr 172 m1 3 0 2 = some (st m1 3 0 2) from wr_n (n := 0) (by omega) (by omega), b1_some, wr_at 2 li2 (by omega) (by omega), b1_some, wr_at 3 li3 (by omega) (by omega), b1_some, wr_at 148 li148 (by omega) (by omega), b1_some]
  have hS : SM aI 1 1 (st (st (st (st m1 3 0 2) 3 2 1) 3 3 1) 3 148 1) := by
    refine ⟨⟨?_, ?_, ?_, ?_⟩, fun l hl => by rw [aI_01] at hl; omega, fun n hn => ?_, fun f hf => ?_, fun f j hf hj => ?_⟩
    · rw [gt_st_i (by omega), gt_st_i (by omega), gt_st_i (by omega), gt_st_same]; rfl
    · rw [gt_st_i (by omega), gt_st_i (by omega), gt_st_i (by omega), gt_st_i (by omega), b2' _ (by omega)]; rfl
    · rw [gt_st_i (by omega), gt_st_i (by omega), gt_st_same]; rfl
    · rw [gt_st_i (by omega), gt_st_same]; rfl
    · rw [gt_st_i (by omega), gt_st_i (by omega), gt_st_i (by omega), gt_st_i (by omega), b2' _ (by omega), aI_z (by omega) (by omega)]; rfl
    · rw [gt_st_i (by omega), gt_st_i (by omega), gt_st_i (by omega), gt_st_i (by omega), b2' _ (by omega), aI_z (by omega) (by omega)]; rfl
    · rw [aI_6 hf hj, show 148 + 5 * f + j = 148 by omega, gt_st_same]; rfl
  obtain ⟨m2, d1, d2, d3, d4, d5⟩ := takes_draft aI_WX hS
  exact ⟨m2, d1, d2, d3, fun i hi => by rw [d5 i (by omega), st_row_ne (by omega), st_row_ne (by omega), st_row_ne (by omega), st_row_ne (by omega), b4' i (by omega)]⟩
theorem init_both : ∃ qk qm, K_init = some qk ∧ M_init = some qm ∧ Inv qk qm := by
  obtain ⟨qk, a1, a2, a3⟩ := K_init_e
  obtain ⟨qm, b1', b2', b3', b4'⟩ := M_init_e
  have g : ∀ j i, j = 18 ∨ 29 < j → gt qk j i = 0 := fun j i hj => by rw [gt_e, a3 j (by omega)]; exact q0K_g (by omega)
  refine ⟨qk, qm, a1, b1', fin aI 1 1, fin_WFg aI_WX, b2', a2, ⟨?_, fun f hf => g 18 _ (by omega), 0, by omega, ?_, g 153 1 (by omega), fun i hi => by omega⟩, 0, 0, fun _ => fin aI 1 1, by omega, by omega, b3', g 41 1 (by omega), g 41 2 (by omega), fun j hj => by omega⟩
  · rw [gt_e, a3 0 (by omega), gt_e, b4' 2 (by omega)]
    show gt q0K 0 12 = gt q0M 0 2
    unfold q0K q0M
    rw [gt_st_same, gt_st_same]
  · rw [gt_e, b4' 1 (by omega)]
    show gt q0M 0 1 = nI 0
    unfold q0M
    rw [gt_st_i (by omega)]; rfl
theorem step_all : StepOK Inv := ⟨sp_append, sp_truncate, sp_load, sp_errorPosition, sp_nodes, sp_links, sp_formats, sp_layers, sp_rate, sp_linkBetween, sp_capacity, sp_isOpen, sp_addReceiver, sp_leave, sp_setWanted, sp_raise, sp_place, sp_remove, sp_setCapacity, sp_setOpen, sp_improve, sp_rebuild, sp_undo, sp_receivers, sp_hasLeft, sp_level, sp_wanted, sp_servedAt, sp_pathNode, sp_bottleneck, sp_shared, sp_neediest, sp_isInTree, sp_parent, sp_delay, sp_below, sp_demand, sp_linkLoad, sp_cpuLoad, sp_isPlaced, sp_total, sp_busiest, sp_offer, sp_graftNode, sp_gain, sp_bestPlace, sp_loss, sp_criticalLink, sp_reportLength, sp_reportByte, sp_tapeLength⟩
theorem whole_start {p : Program} {e : Env} {s : State} {m : MethodId} {below : List Frame} {meth : Method} {c : Code} (l : Launch) (_hflags : l.flags = flags0) {b L : Nat} {xs : Nat → Int32} (hL : L ≤ 3072) (C0 : lw_At p s m meth c b L xs) : W p l e room_1 s m #[Value.ref b] below meth c s.heap [] 0 0 (lw_Z below #[Value.ref b] s) (entryFrame m ([Value.ref b] : List Value).toArray 4) := by
  obtain ⟨qk, qm, a1, a2, a3⟩ := init_both
  exact whole_of l hL C0 a1 a2 a3 step_all
