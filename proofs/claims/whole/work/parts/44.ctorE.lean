/-! ===== the two constructors to their ends ===== -/
/-- a call of a method with a contract over a picture, from a place where more may be written -/
theorem w_callP {p : Program} {l : Launch} {e : Env} {R : Room} {s : State} {m : MethodId} {args : Array Value} {below : List Frame} {meth : Method} {c : Code} {H H0 : Heap} {locs : List Loc} {cs sl : Nat} {Q : State → Prop} {cc : ByteArray} {nL pc : Nat} {ls : Array Slot} {sk sk0 : List Value} {own : String} {D : va_G} {I : ClassId × ClassId × ClassId × ClassId} {A : Nat → Prop} {n : Nat} {sh : Sh} {ad : Nat → Nat} {q q2 : St} {Z : State → Prop} {y : MethodName} {bytes : ByteArray} {maxL ix kp ci N : Nat} {T : u_T} {rm2 : Room} {as fs : List Value} (S : CallFix p m c cc nL s args lw_tg own) (hK : va_K D vwCl (tysL I) s) (hinj : Inj ad n) (hM : Ctr l D I Z n sh ad y bytes maxL none rm2 (.ref (ad kp) :: as) q none q2) (hG : GoodIn lw_tg (wsV own ix y.cls y (Cond.code y bytes maxL none :: lw_tg))) (hZ : ∀ U : State, U.heap = H → s.WarmedH U.vm → ZS Z (In ad n) ∧ Z U) (hkp : kp < n) (he : sh ad kp (q.1 kp) q.2 = .inr (ci, fs)) (hc : vwCl[ci]? = some (y.cls, T, N)) (hP : va_P D vwCl (pic n sh ad q) H) (hDA : ∀ k, k < n → A (ad k)) (hS : va_S A H0 H locs) (hl : ls.size = nL) (hz : rm2.cells = 0 ∧ rm2.slots = 0 ∧ rm2.frames + 1 ≤ R.frames ∧ 8 + (maxL + 11) + rm2.locals ≤ R.locals) (hcs : cs ≤ R.cells ∧ sl ≤ R.slots) (hy : y.cls ≠ "java/lang/invoke/MethodHandle" ∧ y.cls ≠ "java/lang/invoke/VarHandle" ∧ (parseMethodDescriptor y.desc).map (fun d => d.parameters.length) = some as.length) (hr : (sk.map fun v => v.category).sum ≤ 8) (hsk : as.reverse ++ .ref (ad kp) :: sk = sk0) (hd : decode cc pc = .ok (.invokevirtual ix, 3))
    (k : ∀ (H1 : Heap) (locs1 : List Loc), va_P D vwCl (pic n sh ad q2) H1 → va_S A H0 H1 locs1 → W p l e R s m args below meth c H1 locs1 cs sl Q (F0 m (pc + 3) ls sk)) : W p l e R s m args below meth c H locs cs sl Q (F0 m pc ls sk0) := by
  subst hsk
  have hget : (pic n sh ad q)[kp]? = some (ad kp, .inr (ci, fs)) := (pic_get hkp).trans (by rw [he])
  have hIA : ∀ z, In ad n z → A z := fun z ⟨i, hi, e⟩ => e ▸ hDA i hi
  refine va_callv (mc := 0) (ms := 0) (va_runV (C := y.cls) (b := ad kp) (As := as) (rest := sk) S (show Met l y _ rm2 _ _ 0 0 _ from hM) (cwV as.length S.2.2.2.2 hG rfl hz.1 hz.2.1 ⟨rfl, hy.1, hy.2.1, hy.2.2⟩ hz.2.2) ⟨fun a U g mk z => by obtain ⟨z0, ⟨z1, z2, z3⟩, zP, zK⟩ := z; exact ⟨z0, ⟨z1, z2, z2.2 U g mk a z3⟩, zP, va_K.moved (u := U) (U := U.calling g mk a) (Vm.Alike.refl U.vm) zK⟩, va_recv hK hP hc hget, fun U hU hW => ⟨rfl, ⟨hinj, (hZ U hU hW).1, (hZ U hU hW).2⟩, by rw [hU]; exact hP, va_K.moved hW.alike hK⟩⟩ rfl rfl hl rfl (lv_room hr) hd ⟨by rw [Nat.add_zero]; exact hcs.1, by rw [Nat.add_zero]; exact hcs.2⟩) hS (fun z _ h => hIA z h) hIA ?_
  intro u t H1 locs1 ht hvm hw hB hz1 hk1 hS1
  have hB : va_P D vwCl (pic n sh ad q2) t.heap := hB
  exact k H1 locs1 (by rw [← ht]; exact hB) hS1
theorem inj_of_D {A : Nat → Prop} {n : Nat} {sh : Sh} {ad : Nat → Nat} {q : St} (h : va_D A (pic n sh ad q)) : Inj ad n ∧ ∀ k, k < n → A (ad k) := by
  refine ⟨fun i j hi hj e => h.1 i j _ _ (pic_get hi) (pic_get hj) e, fun k hk => h.2 k _ (pic_get hk)⟩
theorem D_of_inj {A : Nat → Prop} {n : Nat} {sh : Sh} {ad : Nat → Nat} {q : St} (h : Inj ad n) (hA : ∀ k, k < n → A (ad k)) : va_D A (pic n sh ad q) := by
  refine ⟨fun i j a b hi hj e => ?_, fun k z hk => ?_⟩
  · obtain ⟨h1, rfl⟩ := pic_some hi
    obtain ⟨h2, rfl⟩ := pic_some hj
    exact h i j h1 h2 e
  · obtain ⟨h1, rfl⟩ := pic_some hk
    exact hA k h1
def zS (sa : Nat → Nat) (A : Nat → Prop) : State → Prop := fun U => vk_S 8 sLn sBy (fun i => sa (1000 + i)) (fun i => sa (1100 + i)) A U U.heap ∧ (∀ i, i < 8 → vk_R RX5 (sIx.getD i 0) (sTx.getD i "") (sa (1000 + i)) U) ∧ va_Z "java/lang/String" "COMPACT_STRINGS" "Z" (.int 1) A U U.heap ∧ va_Zq "jdk/internal/util/Preconditions" "SIOOBE_FORMATTER" "Ljava/util/function/BiFunction;" A U U.heap
theorem zS_ok {sa : Nat → Nat} {A : Nat → Prop} : ZS (zS sa A) A := by
  refine ⟨fun s U h hW hk => ?_, fun U g mk a h => ?_⟩
  · obtain ⟨h1, h2, h3, h4⟩ := h
    refine ⟨(vk_S.moved hW.alike h1).kept hk, fun i hi => vk_R.warm hW (h2 i hi), (va_Z.moved hW.alike h3).kept hk, (va_Zq.moved hW.alike h4).kept hk⟩
  · obtain ⟨h1, h2, h3, h4⟩ := h
    exact ⟨vk_S.moved (u := U) (U := U.calling g mk a) (Vm.Alike.refl U.vm) h1, fun i hi => vk_R.same rfl (h2 i hi), va_Z.moved (u := U) (U := U.calling g mk a) (Vm.Alike.refl U.vm) h3, va_Zq.moved (u := U) (U := U.calling g mk a) (Vm.Alike.refl U.vm) h4⟩
theorem zS_narrow {sa : Nat → Nat} {A B : Nat → Prop} {U : State} (h : zS sa A U) (hAB : ∀ q, B q → A q) : zS sa B U := ⟨h.1.narrow hAB, h.2.1, h.2.2.1.narrow hAB, h.2.2.2.narrow hAB⟩
theorem zS_zK {sa ad : Nat → Nat} {U : State} (h : zS sa (In ad 168) U) (e : ∀ k, 168 ≤ k → ad k = sa k) : zK ad U := by
  obtain ⟨h1, h2, h3, h4⟩ := h
  refine ⟨?_, fun i hi => by rw [e (1000 + i) (by omega)]; exact h2 i hi, h3, h4⟩
  have e1 : (fun i => ad (1000 + i)) = fun i => sa (1000 + i) := funext fun i => e _ (by omega)
  have e2 : (fun i => ad (1100 + i)) = fun i => sa (1100 + i) := funext fun i => e _ (by omega)
  rw [e1, e2]; exact h1
def K_init : Option St := b1 (Su_makeSmallest q0K) fun q1 => Ss_begin q1
abbrev e0K : va_E := .inr (10, [.null, .null, .null, .null, .null, .null, .null, .null, .null, .null, .null, .null, .int 0])
theorem i_K {l : Launch} {D : va_G} {I : ClassId × ClassId × ClassId × ClassId} {h0 : Nat} {sa : Nat → Nat} {qk : St} (hq : K_init = some qk) : ∀ sz : Nat, Met l yX10_init (Cond.code yX10_init cX10_init 1 none :: lw_tg) rmI_K (va_Pc [.ref h0] (fun U => U.heap.size = sz ∧ va_P D vwCl [(h0, e0K)] U.heap ∧ va_K D vwCl (tysL I) U ∧ nK U ∧ zS sa (va_A [(h0, e0K)] sz) U))
    (va_Qv (fun ad : Nat → Nat => ad 0 = h0 ∧ ∀ k, 168 ≤ k → ad k = sa k) (fun ad t => va_P D vwCl (pic 168 (shK I) ad qk) t.heap ∧ va_D (va_A [(h0, e0K)] sz) (pic 168 (shK I) ad qk)) (va_A [(h0, e0K)] sz)) 400 12000 (va_A [(h0, e0K)] sz) := by
  intro sz
  obtain ⟨q1, hq1, hq2⟩ := b1s hq
  refine Met.ofW (cc := cX10_init) (maxL := 1) (ret := none) (by decide) rfl ?_
  intro p e s m args below meth c s₁ Bd hml hv
  obtain ⟨rfl, hsz, hP, hK, hN, hZ⟩ := hv
  have hx := Bd.exec
  have hb := Bd.bytes
  have hr := Bd.returns
  have hlocks := Bd.notSynchronized
  have hts0 := atoms_spec (ws := Cond.code yX10_init cX10_init 1 none :: lw_tg) Bd.pre
  have hts : ∀ w ∈ lw_tg, w.before _ s = true := fun w h => hts0 w (List.mem_cons_of_mem _ h)
  have hown : s.vm.findClass RX10 = some m.cls := findClass_of_methodNamed Bd.named
  have hin : meth.name = "<init>" := (name_of_methodNamed Bd.named Bd.method).1
  have hl := lv_entry [.ref h0] (n := 1) (Nat.le_of_ble_eq_true rfl)
  rw [lg_entry_eq]
  generalize (lg_sl [.ref h0] ++ List.replicate (1 - (lg_sl [.ref h0]).length) Slot.unset).toArray = ls at hl ⊢
  subst hsz
  have hD0 : va_D (va_A [(h0, e0K)] s.heap.size) [(h0, e0K)] := by
    refine ⟨fun i j a b hi hj e => ?_, fun k z hk => Or.inl ⟨k, z.2, hk⟩⟩
    have h1 := (List.getElem?_eq_some_iff.mp hi).1
    have h2 := (List.getElem?_eq_some_iff.mp hj).1
    simp at h1 h2
    omega
  generalize hAe : va_A [(h0, e0K)] s.heap.size = A at hD0 hZ ⊢
  have hA : ∀ q : Nat, s.heap.size ≤ q → A q := fun q h => by rw [← hAe]; exact Or.inr h
  generalize hQe : MQ below _ _ s 400 12000 A = Q
  have C : Bx (p, l, e, rmI_K, s, m, [Value.ref h0].toArray, below, meth, c, Q, D, I, A, s.heap, 1) cX10_init RX10 rmI_K 1 := ⟨⟨hx, hb, hml, hown, hts⟩, hK, rfl, rfl, hA, hin⟩
  refine mk_K (X := (p, l, e, rmI_K, s, m, [Value.ref h0].toArray, below, meth, c, Q, D, I, A, s.heap, 1)) C hN (fun u1 u2 s1 s2 hi tp rd sp fl gr tr rp => ?_) s.heap [] ls hP hD0 va_S.rf hl
  clear hl hP
  refine Bt.eqw (picK_eq (sa := sa)) rfl rfl ?_
  generalize had : adF h0 u1 u2 s1 s2 hi tp rd sp fl gr tr rp sa = ad
  have had0 : ad 0 = h0 := by rw [← had]; rfl
  have hads : ∀ k, 168 ≤ k → ad k = sa k := fun k hk => by
    rw [← had]; unfold adF
    rw [if_neg (by omega), if_neg (by omega), if_neg (by omega), if_neg (by omega), if_neg (by omega), if_neg (by omega), if_neg (by omega), if_neg (by omega), if_neg (by omega), if_neg (by omega), if_neg (by omega), if_neg (by omega), if_neg (by omega)]
  clear had
  intro H locs ls hP hD hS hl
  have hP : va_P D vwCl (pic 168 (shK I) ad q0K) H := hP
  have hD : va_D A (pic 168 (shK I) ad q0K) := hD
  have hS : va_S A s.heap H locs := hS
  have hl : lv_has ls 1 [(0, .ref h0)] := hl
  rw [← had0] at hl
  obtain ⟨hinj, hDA⟩ := inj_of_D hD
  have hIA : ∀ z, In ad 168 z → A z := fun z ⟨i, hi, e⟩ => e ▸ hDA i hi
  have hZU : ∀ (H : Heap) (locs : List Loc), va_S A s.heap H locs → ∀ U : State, U.heap = H → s.WarmedH U.vm → ZS (zK ad) (In ad 168) ∧ zK ad U := fun H locs hS U hU hW => ⟨zK_ok, zS_zK (zS_narrow (zS_ok.1 s U hZ hW (by rw [hU]; exact hS.2.1)) hIA) hads⟩
  show W p l e rmI_K s m _ below meth c H locs 167 5990 Q (F0 m 214 ls [])
  refine lv_aload_n hx hb dX10_init_214 rfl (lv_at hl 0 rfl) ?_
  refine va_get (D := D) (C := RX10) (T := TX10) (N := 13) (ci := 10) (fs := [.ref (ad 1), .ref (ad 10), .ref (ad 19), .ref (ad 30), .ref (ad 41), .ref (ad 153), .ref (ad 155), .ref (ad 156), .ref (ad 157), .ref (ad 161), .ref (ad 165), .ref (ad 166), .int (gt q0K 0 12)]) hx hb hts inG10 hown hK hP 0 (pic_get (by omega)) rfl 0 (by decide) (hts _ (tg 500 (by decide +kernel) rfl)) (fun _ h9 => h9) rfl dX10_init_215 ?_
  refine w_callP (as := []) (kp := 1) ⟨hx, hb, hml, hown, hts⟩ hK hinj (c_Su_makeSmallest hq1) (gd_V (tg 474 (by decide +kernel) rfl) (tg 475 (by decide +kernel) rfl) (tg 476 (by decide +kernel) rfl) (tg 116 (by decide +kernel) rfl) (tg 477 (by decide +kernel) rfl)) (hZU H locs hS) (by omega) (shK_su (o := 1) (j := 0) (Or.inl rfl) (by decide)) rfl hP hDA hS hl.1 ⟨rfl, rfl, Nat.le_of_ble_eq_true rfl, Nat.le_of_ble_eq_true rfl⟩ ⟨Nat.le_of_ble_eq_true rfl, Nat.le_of_ble_eq_true rfl⟩ ⟨by decide, by decide, by show Option.map _ (parseMethodDescriptor yX4_makeSmallest.desc) = some 0; decide +kernel⟩ (Nat.le_of_ble_eq_true rfl) rfl dX10_init_218 (fun H locs hP hS => ?_)
  refine lv_aload_n hx hb dX10_init_221 rfl (lv_at hl 0 rfl) ?_
  refine va_get (D := D) (C := RX10) (T := TX10) (N := 13) (ci := 10) (fs := [.ref (ad 1), .ref (ad 10), .ref (ad 19), .ref (ad 30), .ref (ad 41), .ref (ad 153), .ref (ad 155), .ref (ad 156), .ref (ad 157), .ref (ad 161), .ref (ad 165), .ref (ad 166), .int (gt q1 0 12)]) hx hb hts inG10 hown hK hP 0 (pic_get (by omega)) rfl 2 (by decide) (hts _ (tg 502 (by decide +kernel) rfl)) (fun _ h9 => h9) rfl dX10_init_222 ?_
  refine lv_aload_n hx hb dX10_init_225 rfl (lv_at hl 0 rfl) ?_
  refine va_get (D := D) (C := RX10) (T := TX10) (N := 13) (ci := 10) (fs := [.ref (ad 1), .ref (ad 10), .ref (ad 19), .ref (ad 30), .ref (ad 41), .ref (ad 153), .ref (ad 155), .ref (ad 156), .ref (ad 157), .ref (ad 161), .ref (ad 165), .ref (ad 166), .int (gt q1 0 12)]) hx hb hts inG10 hown hK hP 0 (pic_get (by omega)) rfl 0 (by decide) (hts _ (tg 500 (by decide +kernel) rfl)) (fun _ h9 => h9) rfl dX10_init_226 ?_
  refine w_callP (as := [.ref (ad 1)]) (kp := 19) ⟨hx, hb, hml, hown, hts⟩ hK hinj (c_Ss_begin hq2) (gd_V (tg 489 (by decide +kernel) rfl) (tg 490 (by decide +kernel) rfl) (tg 491 (by decide +kernel) rfl) (tg 117 (by decide +kernel) rfl) (tg 492 (by decide +kernel) rfl)) (hZU H locs hS) (by omega) (shK_st (o := 19) (j := 0) (Or.inl rfl) (by decide)) rfl hP hDA hS hl.1 ⟨rfl, rfl, Nat.le_of_ble_eq_true rfl, Nat.le_of_ble_eq_true rfl⟩ ⟨Nat.le_of_ble_eq_true rfl, Nat.le_of_ble_eq_true rfl⟩ ⟨by decide, by decide, by show Option.map _ (parseMethodDescriptor yX7_begin.desc) = some 1; decide +kernel⟩ (Nat.le_of_ble_eq_true rfl) rfl dX10_init_229 (fun H locs hP hS => ?_)
  refine W.widen (k := 400) (n := 12000) (Nat.le_of_ble_eq_true rfl) (Nat.le_of_ble_eq_true rfl) ?_
  rw [← hQe]
  exact W.vret hx hb hr (fun t ht hW => ⟨⟨ad, rfl, ⟨had0, hads⟩, by rw [ht]; exact hP, D_of_inj hinj hDA⟩, hS.F ht⟩) hS.2.2 dX10_init_232
abbrev rmI_M : Room := { frames := 5, cells := 20, slots := 6000, locals := 200 }
theorem mk_M {X : Bv} (C : Bx X cX11_init RX11 rmI_M 1) {h0 : Nat} (k : ∀ (q1 q2 q3 q4 q5 q6 q7 q8 q9 q10 q11 q12 q13 q14 q15 q16 q17 : Nat), Bt X 153 [(0, .ref h0)] [] [(h0, .inr (11, [.ref q1, .int 0, .int (-2), .ref q2, .ref q3, .int 0, .int 0, .int 0, .int 0, .int 0, .long 0, .int 0, .ref q4, .ref q5, .ref q6, .int 0, .ref q7, .ref q8, .ref q9, .ref q10, .ref q11, .ref q12, .ref q13, .int 0, .ref q14, .ref q15, .ref q16, .ref q17, .int 0])), (q1, .inl ((biOf X).2.1, 1400, .inl (fun _ => 0))), (q2, .inl ((biOf X).1, 172, .inl (fun _ => 0))), (q3, .inl ((biOf X).1, 172, .inl (fun _ => 0))), (q4, .inl ((biOf X).1, 202, .inl (fun _ => 0))), (q5, .inl ((biOf X).1, 202, .inl (fun _ => 0))), (q6, .inl ((biOf X).1, 2020, .inl (fun _ => 0))), (q7, .inl ((biOf X).1, 64, .inl (fun _ => 0))), (q8, .inl ((biOf X).1, 64, .inl (fun _ => 0))), (q9, .inl ((biOf X).1, 32, .inl (fun _ => 0))), (q10, .inl ((biOf X).1, 16, .inl (fun _ => 0))), (q11, .inl ((biOf X).1, 16, .inl (fun _ => 0))), (q12, .inl ((biOf X).1, 16, .inl (fun _ => 0))), (q13, .inl ((biOf X).1, 17, .inl (fun _ => 0))), (q14, .inl ((biOf X).1, 16, .inl (fun _ => 0))), (q15, .inl ((biOf X).2.2.1, 16, .inl (fun _ => 0))), (q16, .inl ((biOf X).2.2.1, 20, .inl (fun _ => 0))), (q17, .inl ((biOf X).1, 256, .inl (fun _ => 0)))] 17 4701) : Bt X 0 [(0, .ref h0)] [] [(h0, .inr (11, [.null, .int 0, .int 0, .null, .null, .int 0, .int 0, .int 0, .int 0, .int 0, .long 0, .int 0, .null, .null, .null, .int 0, .null, .null, .null, .null, .null, .null, .null, .int 0, .null, .null, .null, .null, .int 0]))] 0 0 := by
  refine e_aload C 0 rfl rfl dX11_init_0 ?_
  refine e_obj C (tg 1215 (by decide +kernel) rfl) (Nat.le_of_ble_eq_true rfl) (Nat.le_of_ble_eq_true rfl) dX11_init_1 ?_
  refine e_aload C 0 rfl rfl dX11_init_4 ?_
  refine e_sipush (v := 1400) C (by decide) dX11_init_5 ?_
  refine e_newB (N := 1400) C (by decide) (by decide) (by decide) (Nat.le_of_ble_eq_true rfl) (Nat.le_of_ble_eq_true rfl) dX11_init_8 (fun q1 => ?_)
  show Bt X 10 [(0, .ref h0)] [.ref q1, .ref h0] [(h0, .inr (11, [.null, .int 0, .int 0, .null, .null, .int 0, .int 0, .int 0, .int 0, .int 0, .long 0, .int 0, .null, .null, .null, .int 0, .null, .null, .null, .null, .null, .null, .null, .int 0, .null, .null, .null, .null, .int 0])), (q1, .inl ((biOf X).2.1, 1400, .inl (fun _ => 0)))] 1 1400
  refine e_putF (fs2 := [.ref q1, .int 0, .int 0, .null, .null, .int 0, .int 0, .int 0, .int 0, .int 0, .long 0, .int 0, .null, .null, .null, .int 0, .null, .null, .null, .null, .null, .null, .null, .int 0, .null, .null, .null, .null, .int 0]) C rfl inG11 tyX11 tyX11_ok nmX11 0 (by decide) (Nat.le_of_ble_eq_true rfl) rfl (tg 1228 (by decide +kernel) rfl) rfl rfl rfl rfl rfl dX11_init_10 ?_
  refine e_aload C 0 rfl rfl dX11_init_13 ?_
  refine e_bipush (v := -2) C (by decide) dX11_init_14 ?_
  refine e_put (fs2 := [.ref q1, .int 0, .int (-2), .null, .null, .int 0, .int 0, .int 0, .int 0, .int 0, .long 0, .int 0, .null, .null, .null, .int 0, .null, .null, .null, .null, .null, .null, .null, .int 0, .null, .null, .null, .null, .int 0]) C rfl inG11 tyX11 tyX11_ok nmX11 2 (by decide) (Nat.le_of_ble_eq_true rfl) rfl (tg 1230 (by decide +kernel) rfl) rfl rfl rfl rfl dX11_init_16 ?_
  refine e_aload C 0 rfl rfl dX11_init_19 ?_
  refine e_sipush (v := 172) C (by decide) dX11_init_20 ?_
  refine e_newI (N := 172) C (by decide) (by decide) (by decide) (Nat.le_of_ble_eq_true rfl) (Nat.le_of_ble_eq_true rfl) dX11_init_23 (fun q2 => ?_)
  show Bt X 25 [(0, .ref h0)] [.ref q2, .ref h0] [(h0, .inr (11, [.ref q1, .int 0, .int (-2), .null, .null, .int 0, .int 0, .int 0, .int 0, .int 0, .long 0, .int 0, .null, .null, .null, .int 0, .null, .null, .null, .null, .null, .null, .null, .int 0, .null, .null, .null, .null, .int 0])), (q1, .inl ((biOf X).2.1, 1400, .inl (fun _ => 0))), (q2, .inl ((biOf X).1, 172, .inl (fun _ => 0)))] 2 1572
  refine e_putF (fs2 := [.ref q1, .int 0, .int (-2), .ref q2, .null, .int 0, .int 0, .int 0, .int 0, .int 0, .long 0, .int 0, .null, .null, .null, .int 0, .null, .null, .null, .null, .null, .null, .null, .int 0, .null, .null, .null, .null, .int 0]) C rfl inG11 tyX11 tyX11_ok nmX11 3 (by decide) (Nat.le_of_ble_eq_true rfl) rfl (tg 1231 (by decide +kernel) rfl) rfl rfl rfl rfl rfl dX11_init_25 ?_
  refine e_aload C 0 rfl rfl dX11_init_28 ?_
  refine e_sipush (v := 172) C (by decide) dX11_init_29 ?_
  refine e_newI (N := 172) C (by decide) (by decide) (by decide) (Nat.le_of_ble_eq_true rfl) (Nat.le_of_ble_eq_true rfl) dX11_init_32 (fun q3 => ?_)
  show Bt X 34 [(0, .ref h0)] [.ref q3, .ref h0] [(h0, .inr (11, [.ref q1, .int 0, .int (-2), .ref q2, .null, .int 0, .int 0, .int 0, .int 0, .int 0, .long 0, .int 0, .null, .null, .null, .int 0, .null, .null, .null, .null, .null, .null, .null, .int 0, .null, .null, .null, .null, .int 0])), (q1, .inl ((biOf X).2.1, 1400, .inl (fun _ => 0))), (q2, .inl ((biOf X).1, 172, .inl (fun _ => 0))), (q3, .inl ((biOf X).1, 172, .inl (fun _ => 0)))] 3 1744
  refine e_putF (fs2 := [.ref q1, .int 0, .int (-2), .ref q2, .ref q3, .int 0, .int 0, .int 0, .int 0, .int 0, .long 0, .int 0, .null, .null, .null, .int 0, .null, .null, .null, .null, .null, .null, .null, .int 0, .null, .null, .null, .null, .int 0]) C rfl inG11 tyX11 tyX11_ok nmX11 4 (by decide) (Nat.le_of_ble_eq_true rfl) rfl (tg 1232 (by decide +kernel) rfl) rfl rfl rfl rfl rfl dX11_init_34 ?_
  refine e_aload C 0 rfl rfl dX11_init_37 ?_
  refine e_sipush (v := 202) C (by decide) dX11_init_38 ?_
  refine e_newI (N := 202) C (by decide) (by decide) (by decide) (Nat.le_of_ble_eq_true rfl) (Nat.le_of_ble_eq_true rfl) dX11_init_41 (fun q4 => ?_)
  show Bt X 43 [(0, .ref h0)] [.ref q4, .ref h0] [(h0, .inr (11, [.ref q1, .int 0, .int (-2), .ref q2, .ref q3, .int 0, .int 0, .int 0, .int 0, .int 0, .long 0, .int 0, .null, .null, .null, .int 0, .null, .null, .null, .null, .null, .null, .null, .int 0, .null, .null, .null, .null, .int 0])), (q1, .inl ((biOf X).2.1, 1400, .inl (fun _ => 0))), (q2, .inl ((biOf X).1, 172, .inl (fun _ => 0))), (q3, .inl ((biOf X).1, 172, .inl (fun _ => 0))), (q4, .inl ((biOf X).1, 202, .inl (fun _ => 0)))] 4 1946
  refine e_putF (fs2 := [.ref q1, .int 0, .int (-2), .ref q2, .ref q3, .int 0, .int 0, .int 0, .int 0, .int 0, .long 0, .int 0, .ref q4, .null, .null, .int 0, .null, .null, .null, .null, .null, .null, .null, .int 0, .null, .null, .null, .null, .int 0]) C rfl inG11 tyX11 tyX11_ok nmX11 12 (by decide) (Nat.le_of_ble_eq_true rfl) rfl (tg 1240 (by decide +kernel) rfl) rfl rfl rfl rfl rfl dX11_init_43 ?_
  refine e_aload C 0 rfl rfl dX11_init_46 ?_
  refine e_sipush (v := 202) C (by decide) dX11_init_47 ?_
  refine e_newI (N := 202) C (by decide) (by decide) (by decide) (Nat.le_of_ble_eq_true rfl) (Nat.le_of_ble_eq_true rfl) dX11_init_50 (fun q5 => ?_)
  show Bt X 52 [(0, .ref h0)] [.ref q5, .ref h0] [(h0, .inr (11, [.ref q1, .int 0, .int (-2), .ref q2, .ref q3, .int 0, .int 0, .int 0, .int 0, .int 0, .long 0, .int 0, .ref q4, .null, .null, .int 0, .null, .null, .null, .null, .null, .null, .null, .int 0, .null, .null, .null, .null, .int 0])), (q1, .inl ((biOf X).2.1, 1400, .inl (fun _ => 0))), (q2, .inl ((biOf X).1, 172, .inl (fun _ => 0))), (q3, .inl ((biOf X).1, 172, .inl (fun _ => 0))), (q4, .inl ((biOf X).1, 202, .inl (fun _ => 0))), (q5, .inl ((biOf X).1, 202, .inl (fun _ => 0)))] 5 2148
  refine e_putF (fs2 := [.ref q1, .int 0, .int (-2), .ref q2, .ref q3, .int 0, .int 0, .int 0, .int 0, .int 0, .long 0, .int 0, .ref q4, .ref q5, .null, .int 0, .null, .null, .null, .null, .null, .null, .null, .int 0, .null, .null, .null, .null, .int 0]) C rfl inG11 tyX11 tyX11_ok nmX11 13 (by decide) (Nat.le_of_ble_eq_true rfl) rfl (tg 1241 (by decide +kernel) rfl) rfl rfl rfl rfl rfl dX11_init_52 ?_
  refine e_aload C 0 rfl rfl dX11_init_55 ?_
  refine e_sipush (v := 2020) C (by decide) dX11_init_56 ?_
  refine e_newI (N := 2020) C (by decide) (by decide) (by decide) (Nat.le_of_ble_eq_true rfl) (Nat.le_of_ble_eq_true rfl) dX11_init_59 (fun q6 => ?_)
  show Bt X 61 [(0, .ref h0)] [.ref q6, .ref h0] [(h0, .inr (11, [.ref q1, .int 0, .int (-2), .ref q2, .ref q3, .int 0, .int 0, .int 0, .int 0, .int 0, .long 0, .int 0, .ref q4, .ref q5, .null, .int 0, .null, .null, .null, .null, .null, .null, .null, .int 0, .null, .null, .null, .null, .int 0])), (q1, .inl ((biOf X).2.1, 1400, .inl (fun _ => 0))), (q2, .inl ((biOf X).1, 172, .inl (fun _ => 0))), (q3, .inl ((biOf X).1, 172, .inl (fun _ => 0))), (q4, .inl ((biOf X).1, 202, .inl (fun _ => 0))), (q5, .inl ((biOf X).1, 202, .inl (fun _ => 0))), (q6, .inl ((biOf X).1, 2020, .inl (fun _ => 0)))] 6 4168
  refine e_putF (fs2 := [.ref q1, .int 0, .int (-2), .ref q2, .ref q3, .int 0, .int 0, .int 0, .int 0, .int 0, .long 0, .int 0, .ref q4, .ref q5, .ref q6, .int 0, .null, .null, .null, .null, .null, .null, .null, .int 0, .null, .null, .null, .null, .int 0]) C rfl inG11 tyX11 tyX11_ok nmX11 14 (by decide) (Nat.le_of_ble_eq_true rfl) rfl (tg 1242 (by decide +kernel) rfl) rfl rfl rfl rfl rfl dX11_init_61 ?_
  refine e_aload C 0 rfl rfl dX11_init_64 ?_
  refine e_bipush (v := 64) C (by decide) dX11_init_65 ?_
  refine e_newI (N := 64) C (by decide) (by decide) (by decide) (Nat.le_of_ble_eq_true rfl) (Nat.le_of_ble_eq_true rfl) dX11_init_67 (fun q7 => ?_)
  show Bt X 69 [(0, .ref h0)] [.ref q7, .ref h0] [(h0, .inr (11, [.ref q1, .int 0, .int (-2), .ref q2, .ref q3, .int 0, .int 0, .int 0, .int 0, .int 0, .long 0, .int 0, .ref q4, .ref q5, .ref q6, .int 0, .null, .null, .null, .null, .null, .null, .null, .int 0, .null, .null, .null, .null, .int 0])), (q1, .inl ((biOf X).2.1, 1400, .inl (fun _ => 0))), (q2, .inl ((biOf X).1, 172, .inl (fun _ => 0))), (q3, .inl ((biOf X).1, 172, .inl (fun _ => 0))), (q4, .inl ((biOf X).1, 202, .inl (fun _ => 0))), (q5, .inl ((biOf X).1, 202, .inl (fun _ => 0))), (q6, .inl ((biOf X).1, 2020, .inl (fun _ => 0))), (q7, .inl ((biOf X).1, 64, .inl (fun _ => 0)))] 7 4232
  refine e_putF (fs2 := [.ref q1, .int 0, .int (-2), .ref q2, .ref q3, .int 0, .int 0, .int 0, .int 0, .int 0, .long 0, .int 0, .ref q4, .ref q5, .ref q6, .int 0, .ref q7, .null, .null, .null, .null, .null, .null, .int 0, .null, .null, .null, .null, .int 0]) C rfl inG11 tyX11 tyX11_ok nmX11 16 (by decide) (Nat.le_of_ble_eq_true rfl) rfl (tg 1244 (by decide +kernel) rfl) rfl rfl rfl rfl rfl dX11_init_69 ?_
  refine e_aload C 0 rfl rfl dX11_init_72 ?_
  refine e_bipush (v := 64) C (by decide) dX11_init_73 ?_
  refine e_newI (N := 64) C (by decide) (by decide) (by decide) (Nat.le_of_ble_eq_true rfl) (Nat.le_of_ble_eq_true rfl) dX11_init_75 (fun q8 => ?_)
  show Bt X 77 [(0, .ref h0)] [.ref q8, .ref h0] [(h0, .inr (11, [.ref q1, .int 0, .int (-2), .ref q2, .ref q3, .int 0, .int 0, .int 0, .int 0, .int 0, .long 0, .int 0, .ref q4, .ref q5, .ref q6, .int 0, .ref q7, .null, .null, .null, .null, .null, .null, .int 0, .null, .null, .null, .null, .int 0])), (q1, .inl ((biOf X).2.1, 1400, .inl (fun _ => 0))), (q2, .inl ((biOf X).1, 172, .inl (fun _ => 0))), (q3, .inl ((biOf X).1, 172, .inl (fun _ => 0))), (q4, .inl ((biOf X).1, 202, .inl (fun _ => 0))), (q5, .inl ((biOf X).1, 202, .inl (fun _ => 0))), (q6, .inl ((biOf X).1, 2020, .inl (fun _ => 0))), (q7, .inl ((biOf X).1, 64, .inl (fun _ => 0))), (q8, .inl ((biOf X).1, 64, .inl (fun _ => 0)))] 8 4296
  refine e_putF (fs2 := [.ref q1, .int 0, .int (-2), .ref q2, .ref q3, .int 0, .int 0, .int 0, .int 0, .int 0, .long 0, .int 0, .ref q4, .ref q5, .ref q6, .int 0, .ref q7, .ref q8, .null, .null, .null, .null, .null, .int 0, .null, .null, .null, .null, .int 0]) C rfl inG11 tyX11 tyX11_ok nmX11 17 (by decide) (Nat.le_of_ble_eq_true rfl) rfl (tg 1245 (by decide +kernel) rfl) rfl rfl rfl rfl rfl dX11_init_77 ?_
  refine e_aload C 0 rfl rfl dX11_init_80 ?_
  refine e_bipush (v := 32) C (by decide) dX11_init_81 ?_
  refine e_newI (N := 32) C (by decide) (by decide) (by decide) (Nat.le_of_ble_eq_true rfl) (Nat.le_of_ble_eq_true rfl) dX11_init_83 (fun q9 => ?_)
  show Bt X 85 [(0, .ref h0)] [.ref q9, .ref h0] [(h0, .inr (11, [.ref q1, .int 0, .int (-2), .ref q2, .ref q3, .int 0, .int 0, .int 0, .int 0, .int 0, .long 0, .int 0, .ref q4, .ref q5, .ref q6, .int 0, .ref q7, .ref q8, .null, .null, .null, .null, .null, .int 0, .null, .null, .null, .null, .int 0])), (q1, .inl ((biOf X).2.1, 1400, .inl (fun _ => 0))), (q2, .inl ((biOf X).1, 172, .inl (fun _ => 0))), (q3, .inl ((biOf X).1, 172, .inl (fun _ => 0))), (q4, .inl ((biOf X).1, 202, .inl (fun _ => 0))), (q5, .inl ((biOf X).1, 202, .inl (fun _ => 0))), (q6, .inl ((biOf X).1, 2020, .inl (fun _ => 0))), (q7, .inl ((biOf X).1, 64, .inl (fun _ => 0))), (q8, .inl ((biOf X).1, 64, .inl (fun _ => 0))), (q9, .inl ((biOf X).1, 32, .inl (fun _ => 0)))] 9 4328
  refine e_putF (fs2 := [.ref q1, .int 0, .int (-2), .ref q2, .ref q3, .int 0, .int 0, .int 0, .int 0, .int 0, .long 0, .int 0, .ref q4, .ref q5, .ref q6, .int 0, .ref q7, .ref q8, .ref q9, .null, .null, .null, .null, .int 0, .null, .null, .null, .null, .int 0]) C rfl inG11 tyX11 tyX11_ok nmX11 18 (by decide) (Nat.le_of_ble_eq_true rfl) rfl (tg 1246 (by decide +kernel) rfl) rfl rfl rfl rfl rfl dX11_init_85 ?_
  refine e_aload C 0 rfl rfl dX11_init_88 ?_
  refine e_bipush (v := 16) C (by decide) dX11_init_89 ?_
  refine e_newI (N := 16) C (by decide) (by decide) (by decide) (Nat.le_of_ble_eq_true rfl) (Nat.le_of_ble_eq_true rfl) dX11_init_91 (fun q10 => ?_)
  show Bt X 93 [(0, .ref h0)] [.ref q10, .ref h0] [(h0, .inr (11, [.ref q1, .int 0, .int (-2), .ref q2, .ref q3, .int 0, .int 0, .int 0, .int 0, .int 0, .long 0, .int 0, .ref q4, .ref q5, .ref q6, .int 0, .ref q7, .ref q8, .ref q9, .null, .null, .null, .null, .int 0, .null, .null, .null, .null, .int 0])), (q1, .inl ((biOf X).2.1, 1400, .inl (fun _ => 0))), (q2, .inl ((biOf X).1, 172, .inl (fun _ => 0))), (q3, .inl ((biOf X).1, 172, .inl (fun _ => 0))), (q4, .inl ((biOf X).1, 202, .inl (fun _ => 0))), (q5, .inl ((biOf X).1, 202, .inl (fun _ => 0))), (q6, .inl ((biOf X).1, 2020, .inl (fun _ => 0))), (q7, .inl ((biOf X).1, 64, .inl (fun _ => 0))), (q8, .inl ((biOf X).1, 64, .inl (fun _ => 0))), (q9, .inl ((biOf X).1, 32, .inl (fun _ => 0))), (q10, .inl ((biOf X).1, 16, .inl (fun _ => 0)))] 10 4344
  refine e_putF (fs2 := [.ref q1, .int 0, .int (-2), .ref q2, .ref q3, .int 0, .int 0, .int 0, .int 0, .int 0, .long 0, .int 0, .ref q4, .ref q5, .ref q6, .int 0, .ref q7, .ref q8, .ref q9, .ref q10, .null, .null, .null, .int 0, .null, .null, .null, .null, .int 0]) C rfl inG11 tyX11 tyX11_ok nmX11 19 (by decide) (Nat.le_of_ble_eq_true rfl) rfl (tg 1247 (by decide +kernel) rfl) rfl rfl rfl rfl rfl dX11_init_93 ?_
  refine e_aload C 0 rfl rfl dX11_init_96 ?_
  refine e_bipush (v := 16) C (by decide) dX11_init_97 ?_
  refine e_newI (N := 16) C (by decide) (by decide) (by decide) (Nat.le_of_ble_eq_true rfl) (Nat.le_of_ble_eq_true rfl) dX11_init_99 (fun q11 => ?_)
  show Bt X 101 [(0, .ref h0)] [.ref q11, .ref h0] [(h0, .inr (11, [.ref q1, .int 0, .int (-2), .ref q2, .ref q3, .int 0, .int 0, .int 0, .int 0, .int 0, .long 0, .int 0, .ref q4, .ref q5, .ref q6, .int 0, .ref q7, .ref q8, .ref q9, .ref q10, .null, .null, .null, .int 0, .null, .null, .null, .null, .int 0])), (q1, .inl ((biOf X).2.1, 1400, .inl (fun _ => 0))), (q2, .inl ((biOf X).1, 172, .inl (fun _ => 0))), (q3, .inl ((biOf X).1, 172, .inl (fun _ => 0))), (q4, .inl ((biOf X).1, 202, .inl (fun _ => 0))), (q5, .inl ((biOf X).1, 202, .inl (fun _ => 0))), (q6, .inl ((biOf X).1, 2020, .inl (fun _ => 0))), (q7, .inl ((biOf X).1, 64, .inl (fun _ => 0))), (q8, .inl ((biOf X).1, 64, .inl (fun _ => 0))), (q9, .inl ((biOf X).1, 32, .inl (fun _ => 0))), (q10, .inl ((biOf X).1, 16, .inl (fun _ => 0))), (q11, .inl ((biOf X).1, 16, .inl (fun _ => 0)))] 11 4360
  refine e_putF (fs2 := [.ref q1, .int 0, .int (-2), .ref q2, .ref q3, .int 0, .int 0, .int 0, .int 0, .int 0, .long 0, .int 0, .ref q4, .ref q5, .ref q6, .int 0, .ref q7, .ref q8, .ref q9, .ref q10, .ref q11, .null, .null, .int 0, .null, .null, .null, .null, .int 0]) C rfl inG11 tyX11 tyX11_ok nmX11 20 (by decide) (Nat.le_of_ble_eq_true rfl) rfl (tg 1248 (by decide +kernel) rfl) rfl rfl rfl rfl rfl dX11_init_101 ?_
  refine e_aload C 0 rfl rfl dX11_init_104 ?_
  refine e_bipush (v := 16) C (by decide) dX11_init_105 ?_
  refine e_newI (N := 16) C (by decide) (by decide) (by decide) (Nat.le_of_ble_eq_true rfl) (Nat.le_of_ble_eq_true rfl) dX11_init_107 (fun q12 => ?_)
  show Bt X 109 [(0, .ref h0)] [.ref q12, .ref h0] [(h0, .inr (11, [.ref q1, .int 0, .int (-2), .ref q2, .ref q3, .int 0, .int 0, .int 0, .int 0, .int 0, .long 0, .int 0, .ref q4, .ref q5, .ref q6, .int 0, .ref q7, .ref q8, .ref q9, .ref q10, .ref q11, .null, .null, .int 0, .null, .null, .null, .null, .int 0])), (q1, .inl ((biOf X).2.1, 1400, .inl (fun _ => 0))), (q2, .inl ((biOf X).1, 172, .inl (fun _ => 0))), (q3, .inl ((biOf X).1, 172, .inl (fun _ => 0))), (q4, .inl ((biOf X).1, 202, .inl (fun _ => 0))), (q5, .inl ((biOf X).1, 202, .inl (fun _ => 0))), (q6, .inl ((biOf X).1, 2020, .inl (fun _ => 0))), (q7, .inl ((biOf X).1, 64, .inl (fun _ => 0))), (q8, .inl ((biOf X).1, 64, .inl (fun _ => 0))), (q9, .inl ((biOf X).1, 32, .inl (fun _ => 0))), (q10, .inl ((biOf X).1, 16, .inl (fun _ => 0))), (q11, .inl ((biOf X).1, 16, .inl (fun _ => 0))), (q12, .inl ((biOf X).1, 16, .inl (fun _ => 0)))] 12 4376
  refine e_putF (fs2 := [.ref q1, .int 0, .int (-2), .ref q2, .ref q3, .int 0, .int 0, .int 0, .int 0, .int 0, .long 0, .int 0, .ref q4, .ref q5, .ref q6, .int 0, .ref q7, .ref q8, .ref q9, .ref q10, .ref q11, .ref q12, .null, .int 0, .null, .null, .null, .null, .int 0]) C rfl inG11 tyX11 tyX11_ok nmX11 21 (by decide) (Nat.le_of_ble_eq_true rfl) rfl (tg 1249 (by decide +kernel) rfl) rfl rfl rfl rfl rfl dX11_init_109 ?_
  refine e_aload C 0 rfl rfl dX11_init_112 ?_
  refine e_bipush (v := 17) C (by decide) dX11_init_113 ?_
  refine e_newI (N := 17) C (by decide) (by decide) (by decide) (Nat.le_of_ble_eq_true rfl) (Nat.le_of_ble_eq_true rfl) dX11_init_115 (fun q13 => ?_)
  show Bt X 117 [(0, .ref h0)] [.ref q13, .ref h0] [(h0, .inr (11, [.ref q1, .int 0, .int (-2), .ref q2, .ref q3, .int 0, .int 0, .int 0, .int 0, .int 0, .long 0, .int 0, .ref q4, .ref q5, .ref q6, .int 0, .ref q7, .ref q8, .ref q9, .ref q10, .ref q11, .ref q12, .null, .int 0, .null, .null, .null, .null, .int 0])), (q1, .inl ((biOf X).2.1, 1400, .inl (fun _ => 0))), (q2, .inl ((biOf X).1, 172, .inl (fun _ => 0))), (q3, .inl ((biOf X).1, 172, .inl (fun _ => 0))), (q4, .inl ((biOf X).1, 202, .inl (fun _ => 0))), (q5, .inl ((biOf X).1, 202, .inl (fun _ => 0))), (q6, .inl ((biOf X).1, 2020, .inl (fun _ => 0))), (q7, .inl ((biOf X).1, 64, .inl (fun _ => 0))), (q8, .inl ((biOf X).1, 64, .inl (fun _ => 0))), (q9, .inl ((biOf X).1, 32, .inl (fun _ => 0))), (q10, .inl ((biOf X).1, 16, .inl (fun _ => 0))), (q11, .inl ((biOf X).1, 16, .inl (fun _ => 0))), (q12, .inl ((biOf X).1, 16, .inl (fun _ => 0))), (q13, .inl ((biOf X).1, 17, .inl (fun _ => 0)))] 13 4393
  refine e_putF (fs2 := [.ref q1, .int 0, .int (-2), .ref q2, .ref q3, .int 0, .int 0, .int 0, .int 0, .int 0, .long 0, .int 0, .ref q4, .ref q5, .ref q6, .int 0, .ref q7, .ref q8, .ref q9, .ref q10, .ref q11, .ref q12, .ref q13, .int 0, .null, .null, .null, .null, .int 0]) C rfl inG11 tyX11 tyX11_ok nmX11 22 (by decide) (Nat.le_of_ble_eq_true rfl) rfl (tg 1250 (by decide +kernel) rfl) rfl rfl rfl rfl rfl dX11_init_117 ?_
  refine e_aload C 0 rfl rfl dX11_init_120 ?_
  refine e_bipush (v := 16) C (by decide) dX11_init_121 ?_
  refine e_newI (N := 16) C (by decide) (by decide) (by decide) (Nat.le_of_ble_eq_true rfl) (Nat.le_of_ble_eq_true rfl) dX11_init_123 (fun q14 => ?_)
  show Bt X 125 [(0, .ref h0)] [.ref q14, .ref h0] [(h0, .inr (11, [.ref q1, .int 0, .int (-2), .ref q2, .ref q3, .int 0, .int 0, .int 0, .int 0, .int 0, .long 0, .int 0, .ref q4, .ref q5, .ref q6, .int 0, .ref q7, .ref q8, .ref q9, .ref q10, .ref q11, .ref q12, .ref q13, .int 0, .null, .null, .null, .null, .int 0])), (q1, .inl ((biOf X).2.1, 1400, .inl (fun _ => 0))), (q2, .inl ((biOf X).1, 172, .inl (fun _ => 0))), (q3, .inl ((biOf X).1, 172, .inl (fun _ => 0))), (q4, .inl ((biOf X).1, 202, .inl (fun _ => 0))), (q5, .inl ((biOf X).1, 202, .inl (fun _ => 0))), (q6, .inl ((biOf X).1, 2020, .inl (fun _ => 0))), (q7, .inl ((biOf X).1, 64, .inl (fun _ => 0))), (q8, .inl ((biOf X).1, 64, .inl (fun _ => 0))), (q9, .inl ((biOf X).1, 32, .inl (fun _ => 0))), (q10, .inl ((biOf X).1, 16, .inl (fun _ => 0))), (q11, .inl ((biOf X).1, 16, .inl (fun _ => 0))), (q12, .inl ((biOf X).1, 16, .inl (fun _ => 0))), (q13, .inl ((biOf X).1, 17, .inl (fun _ => 0))), (q14, .inl ((biOf X).1, 16, .inl (fun _ => 0)))] 14 4409
  refine e_putF (fs2 := [.ref q1, .int 0, .int (-2), .ref q2, .ref q3, .int 0, .int 0, .int 0, .int 0, .int 0, .long 0, .int 0, .ref q4, .ref q5, .ref q6, .int 0, .ref q7, .ref q8, .ref q9, .ref q10, .ref q11, .ref q12, .ref q13, .int 0, .ref q14, .null, .null, .null, .int 0]) C rfl inG11 tyX11 tyX11_ok nmX11 24 (by decide) (Nat.le_of_ble_eq_true rfl) rfl (tg 1252 (by decide +kernel) rfl) rfl rfl rfl rfl rfl dX11_init_125 ?_
  refine e_aload C 0 rfl rfl dX11_init_128 ?_
  refine e_bipush (v := 16) C (by decide) dX11_init_129 ?_
  refine e_newZ (N := 16) C (by decide) (by decide) (by decide) (Nat.le_of_ble_eq_true rfl) (Nat.le_of_ble_eq_true rfl) dX11_init_131 (fun q15 => ?_)
  show Bt X 133 [(0, .ref h0)] [.ref q15, .ref h0] [(h0, .inr (11, [.ref q1, .int 0, .int (-2), .ref q2, .ref q3, .int 0, .int 0, .int 0, .int 0, .int 0, .long 0, .int 0, .ref q4, .ref q5, .ref q6, .int 0, .ref q7, .ref q8, .ref q9, .ref q10, .ref q11, .ref q12, .ref q13, .int 0, .ref q14, .null, .null, .null, .int 0])), (q1, .inl ((biOf X).2.1, 1400, .inl (fun _ => 0))), (q2, .inl ((biOf X).1, 172, .inl (fun _ => 0))), (q3, .inl ((biOf X).1, 172, .inl (fun _ => 0))), (q4, .inl ((biOf X).1, 202, .inl (fun _ => 0))), (q5, .inl ((biOf X).1, 202, .inl (fun _ => 0))), (q6, .inl ((biOf X).1, 2020, .inl (fun _ => 0))), (q7, .inl ((biOf X).1, 64, .inl (fun _ => 0))), (q8, .inl ((biOf X).1, 64, .inl (fun _ => 0))), (q9, .inl ((biOf X).1, 32, .inl (fun _ => 0))), (q10, .inl ((biOf X).1, 16, .inl (fun _ => 0))), (q11, .inl ((biOf X).1, 16, .inl (fun _ => 0))), (q12, .inl ((biOf X).1, 16, .inl (fun _ => 0))), (q13, .inl ((biOf X).1, 17, .inl (fun _ => 0))), (q14, .inl ((biOf X).1, 16, .inl (fun _ => 0))), (q15, .inl ((biOf X).2.2.1, 16, .inl (fun _ => 0)))] 15 4425
  refine e_putF (fs2 := [.ref q1, .int 0, .int (-2), .ref q2, .ref q3, .int 0, .int 0, .int 0, .int 0, .int 0, .long 0, .int 0, .ref q4, .ref q5, .ref q6, .int 0, .ref q7, .ref q8, .ref q9, .ref q10, .ref q11, .ref q12, .ref q13, .int 0, .ref q14, .ref q15, .null, .null, .int 0]) C rfl inG11 tyX11 tyX11_ok nmX11 25 (by decide) (Nat.le_of_ble_eq_true rfl) rfl (tg 1253 (by decide +kernel) rfl) rfl rfl rfl rfl rfl dX11_init_133 ?_
  refine e_aload C 0 rfl rfl dX11_init_136 ?_
  refine e_bipush (v := 20) C (by decide) dX11_init_137 ?_
  refine e_newZ (N := 20) C (by decide) (by decide) (by decide) (Nat.le_of_ble_eq_true rfl) (Nat.le_of_ble_eq_true rfl) dX11_init_139 (fun q16 => ?_)
  show Bt X 141 [(0, .ref h0)] [.ref q16, .ref h0] [(h0, .inr (11, [.ref q1, .int 0, .int (-2), .ref q2, .ref q3, .int 0, .int 0, .int 0, .int 0, .int 0, .long 0, .int 0, .ref q4, .ref q5, .ref q6, .int 0, .ref q7, .ref q8, .ref q9, .ref q10, .ref q11, .ref q12, .ref q13, .int 0, .ref q14, .ref q15, .null, .null, .int 0])), (q1, .inl ((biOf X).2.1, 1400, .inl (fun _ => 0))), (q2, .inl ((biOf X).1, 172, .inl (fun _ => 0))), (q3, .inl ((biOf X).1, 172, .inl (fun _ => 0))), (q4, .inl ((biOf X).1, 202, .inl (fun _ => 0))), (q5, .inl ((biOf X).1, 202, .inl (fun _ => 0))), (q6, .inl ((biOf X).1, 2020, .inl (fun _ => 0))), (q7, .inl ((biOf X).1, 64, .inl (fun _ => 0))), (q8, .inl ((biOf X).1, 64, .inl (fun _ => 0))), (q9, .inl ((biOf X).1, 32, .inl (fun _ => 0))), (q10, .inl ((biOf X).1, 16, .inl (fun _ => 0))), (q11, .inl ((biOf X).1, 16, .inl (fun _ => 0))), (q12, .inl ((biOf X).1, 16, .inl (fun _ => 0))), (q13, .inl ((biOf X).1, 17, .inl (fun _ => 0))), (q14, .inl ((biOf X).1, 16, .inl (fun _ => 0))), (q15, .inl ((biOf X).2.2.1, 16, .inl (fun _ => 0))), (q16, .inl ((biOf X).2.2.1, 20, .inl (fun _ => 0)))] 16 4445
  refine e_putF (fs2 := [.ref q1, .int 0, .int (-2), .ref q2, .ref q3, .int 0, .int 0, .int 0, .int 0, .int 0, .long 0, .int 0, .ref q4, .ref q5, .ref q6, .int 0, .ref q7, .ref q8, .ref q9, .ref q10, .ref q11, .ref q12, .ref q13, .int 0, .ref q14, .ref q15, .ref q16, .null, .int 0]) C rfl inG11 tyX11 tyX11_ok nmX11 26 (by decide) (Nat.le_of_ble_eq_true rfl) rfl (tg 1254 (by decide +kernel) rfl) rfl rfl rfl rfl rfl dX11_init_141 ?_
  refine e_aload C 0 rfl rfl dX11_init_144 ?_
  refine e_sipush (v := 256) C (by decide) dX11_init_145 ?_
  refine e_newI (N := 256) C (by decide) (by decide) (by decide) (Nat.le_of_ble_eq_true rfl) (Nat.le_of_ble_eq_true rfl) dX11_init_148 (fun q17 => ?_)
  show Bt X 150 [(0, .ref h0)] [.ref q17, .ref h0] [(h0, .inr (11, [.ref q1, .int 0, .int (-2), .ref q2, .ref q3, .int 0, .int 0, .int 0, .int 0, .int 0, .long 0, .int 0, .ref q4, .ref q5, .ref q6, .int 0, .ref q7, .ref q8, .ref q9, .ref q10, .ref q11, .ref q12, .ref q13, .int 0, .ref q14, .ref q15, .ref q16, .null, .int 0])), (q1, .inl ((biOf X).2.1, 1400, .inl (fun _ => 0))), (q2, .inl ((biOf X).1, 172, .inl (fun _ => 0))), (q3, .inl ((biOf X).1, 172, .inl (fun _ => 0))), (q4, .inl ((biOf X).1, 202, .inl (fun _ => 0))), (q5, .inl ((biOf X).1, 202, .inl (fun _ => 0))), (q6, .inl ((biOf X).1, 2020, .inl (fun _ => 0))), (q7, .inl ((biOf X).1, 64, .inl (fun _ => 0))), (q8, .inl ((biOf X).1, 64, .inl (fun _ => 0))), (q9, .inl ((biOf X).1, 32, .inl (fun _ => 0))), (q10, .inl ((biOf X).1, 16, .inl (fun _ => 0))), (q11, .inl ((biOf X).1, 16, .inl (fun _ => 0))), (q12, .inl ((biOf X).1, 16, .inl (fun _ => 0))), (q13, .inl ((biOf X).1, 17, .inl (fun _ => 0))), (q14, .inl ((biOf X).1, 16, .inl (fun _ => 0))), (q15, .inl ((biOf X).2.2.1, 16, .inl (fun _ => 0))), (q16, .inl ((biOf X).2.2.1, 20, .inl (fun _ => 0))), (q17, .inl ((biOf X).1, 256, .inl (fun _ => 0)))] 17 4701
  refine e_putF (fs2 := [.ref q1, .int 0, .int (-2), .ref q2, .ref q3, .int 0, .int 0, .int 0, .int 0, .int 0, .long 0, .int 0, .ref q4, .ref q5, .ref q6, .int 0, .ref q7, .ref q8, .ref q9, .ref q10, .ref q11, .ref q12, .ref q13, .int 0, .ref q14, .ref q15, .ref q16, .ref q17, .int 0]) C rfl inG11 tyX11 tyX11_ok nmX11 27 (by decide) (Nat.le_of_ble_eq_true rfl) rfl (tg 1255 (by decide +kernel) rfl) rfl rfl rfl rfl rfl dX11_init_150 ?_
  exact k q1 q2 q3 q4 q5 q6 q7 q8 q9 q10 q11 q12 q13 q14 q15 q16 q17
def q0M : St := st z0 0 2 (-2)
def M_init : Option St := b1 (M_defaults q0M) fun q1 => b1 (wr 172 q1 3 0 2) fun q2 => b1 (wr 172 q2 3 2 1) fun q3 => b1 (wr 172 q3 3 3 1) fun q4 => b1 (wr 172 q4 3 148 1) fun q5 => M_takesDraft q5
abbrev e0M : va_E := .inr (11, [.null, .int 0, .int 0, .null, .null, .int 0, .int 0, .int 0, .int 0, .int 0, .long 0, .int 0, .null, .null, .null, .int 0, .null, .null, .null, .null, .null, .null, .null, .int 0, .null, .null, .null, .null, .int 0])
theorem picM_eq {I : ClassId × ClassId × ClassId × ClassId} {h0 q1 q2 q3 q4 q5 q6 q7 q8 q9 q10 q11 q12 q13 q14 q15 q16 q17 : Nat} : [(h0, .inr (11, [.ref q1, .int 0, .int (-2), .ref q2, .ref q3, .int 0, .int 0, .int 0, .int 0, .int 0, .long 0, .int 0, .ref q4, .ref q5, .ref q6, .int 0, .ref q7, .ref q8, .ref q9, .ref q10, .ref q11, .ref q12, .ref q13, .int 0, .ref q14, .ref q15, .ref q16, .ref q17, .int 0])), (q1, .inl (I.2.1, 1400, .inl (fun _ => 0))), (q2, .inl (I.1, 172, .inl (fun _ => 0))), (q3, .inl (I.1, 172, .inl (fun _ => 0))), (q4, .inl (I.1, 202, .inl (fun _ => 0))), (q5, .inl (I.1, 202, .inl (fun _ => 0))), (q6, .inl (I.1, 2020, .inl (fun _ => 0))), (q7, .inl (I.1, 64, .inl (fun _ => 0))), (q8, .inl (I.1, 64, .inl (fun _ => 0))), (q9, .inl (I.1, 32, .inl (fun _ => 0))), (q10, .inl (I.1, 16, .inl (fun _ => 0))), (q11, .inl (I.1, 16, .inl (fun _ => 0))), (q12, .inl (I.1, 16, .inl (fun _ => 0))), (q13, .inl (I.1, 17, .inl (fun _ => 0))), (q14, .inl (I.1, 16, .inl (fun _ => 0))), (q15, .inl (I.2.2.1, 16, .inl (fun _ => 0))), (q16, .inl (I.2.2.1, 20, .inl (fun _ => 0))), (q17, .inl (I.1, 256, .inl (fun _ => 0)))] = pic 18 (shM I) (fun k => [h0, q1, q2, q3, q4, q5, q6, q7, q8, q9, q10, q11, q12, q13, q14, q15, q16, q17].getD k 0) q0M := rfl
theorem i_M {l : Launch} {D : va_G} {I : ClassId × ClassId × ClassId × ClassId} {h0 : Nat} {qm : St} (hq : M_init = some qm) : ∀ sz : Nat, Met l yX11_init (Cond.code yX11_init cX11_init 1 none :: lw_tg) rmI_M (va_Pc [.ref h0] (fun U => U.heap.size = sz ∧ va_P D vwCl [(h0, e0M)] U.heap ∧ va_K D vwCl (tysL I) U))
    (va_Qv (fun ad : Nat → Nat => ad 0 = h0) (fun ad t => va_P D vwCl (pic 18 (shM I) ad qm) t.heap ∧ va_D (va_A [(h0, e0M)] sz) (pic 18 (shM I) ad qm)) (va_A [(h0, e0M)] sz)) 20 6000 (va_A [(h0, e0M)] sz) := by
  intro sz
  obtain ⟨q1, h1, hq⟩ := b1s hq
  obtain ⟨q2, h2, hq⟩ := b1s hq
  obtain ⟨q3, h3, hq⟩ := b1s hq
  obtain ⟨q4, h4, hq⟩ := b1s hq
  obtain ⟨q5, h5, hq⟩ := b1s hq
  refine Met.ofW (cc := cX11_init) (maxL := 1) (ret := none) (by decide) rfl ?_
  intro p e s m args below meth c s₁ Bd hml hv
  obtain ⟨rfl, hsz, hP, hK⟩ := hv
  have hx := Bd.exec
  have hb := Bd.bytes
  have hr := Bd.returns
  have hlocks := Bd.notSynchronized
  have hts0 := atoms_spec (ws := Cond.code yX11_init cX11_init 1 none :: lw_tg) Bd.pre
  have hts : ∀ w ∈ lw_tg, w.before _ s = true := fun w h => hts0 w (List.mem_cons_of_mem _ h)
  have hown : s.vm.findClass RX11 = some m.cls := findClass_of_methodNamed Bd.named
  have hin : meth.name = "<init>" := (name_of_methodNamed Bd.named Bd.method).1
  have hl := lv_entry [.ref h0] (n := 1) (Nat.le_of_ble_eq_true rfl)
  rw [lg_entry_eq]
  generalize (lg_sl [.ref h0] ++ List.replicate (1 - (lg_sl [.ref h0]).length) Slot.unset).toArray = ls at hl ⊢
  subst hsz
  have hD0 : va_D (va_A [(h0, e0M)] s.heap.size) [(h0, e0M)] := by
    refine ⟨fun i j a b hi hj e => ?_, fun k z hk => Or.inl ⟨k, z.2, hk⟩⟩
    have h1 := (List.getElem?_eq_some_iff.mp hi).1
    have h2 := (List.getElem?_eq_some_iff.mp hj).1
    simp at h1 h2
    omega
  generalize hAe : va_A [(h0, e0M)] s.heap.size = A at hD0 ⊢
  have hA : ∀ q : Nat, s.heap.size ≤ q → A q := fun q h => by rw [← hAe]; exact Or.inr h
  generalize hQe : MQ below _ _ s 20 6000 A = Q
  have C : Bx (p, l, e, rmI_M, s, m, [Value.ref h0].toArray, below, meth, c, Q, D, I, A, s.heap, 1) cX11_init RX11 rmI_M 1 := ⟨⟨hx, hb, hml, hown, hts⟩, hK, rfl, rfl, hA, hin⟩
  refine mk_M (X := (p, l, e, rmI_M, s, m, [Value.ref h0].toArray, below, meth, c, Q, D, I, A, s.heap, 1)) C (fun a1 a2 a3 a4 a5 a6 a7 a8 a9 a10 a11 a12 a13 a14 a15 a16 a17 => ?_) s.heap [] ls hP hD0 va_S.rf hl
  clear hl hP
  refine Bt.eqw picM_eq rfl rfl ?_
  generalize had : (fun k => [h0, a1, a2, a3, a4, a5, a6, a7, a8, a9, a10, a11, a12, a13, a14, a15, a16, a17].getD k 0) = ad
  have had0 : ad 0 = h0 := by rw [← had]; rfl
  clear had
  intro H locs ls hP hD hS hl
  have hP : va_P D vwCl (pic 18 (shM I) ad q0M) H := hP
  have hD : va_D A (pic 18 (shM I) ad q0M) := hD
  have hS : va_S A s.heap H locs := hS
  have hl : lv_has ls 1 [(0, .ref h0)] := hl
  rw [← had0] at hl
  obtain ⟨hinj, hDA⟩ := inj_of_D hD
  show W p l e rmI_M s m _ below meth c H locs 17 4701 Q (F0 m 153 ls [])
  refine lv_aload_n hx hb dX11_init_153 rfl (lv_at hl 0 rfl) ?_
  refine w_callP (as := []) (kp := 0) ⟨hx, hb, hml, hown, hts⟩ hK hinj (c_M_defaults h1) (gd_V (tg 1216 (by decide +kernel) rfl) (tg 1218 (by decide +kernel) rfl) (tg 46 (by decide +kernel) rfl) (tg 128 (by decide +kernel) rfl) (tg 1219 (by decide +kernel) rfl)) (fun _ _ _ => ⟨zT_ok, trivial⟩) (by omega) rfl rfl hP hDA hS hl.1 ⟨rfl, rfl, Nat.le_of_ble_eq_true rfl, Nat.le_of_ble_eq_true rfl⟩ ⟨Nat.le_of_ble_eq_true rfl, Nat.le_of_ble_eq_true rfl⟩ ⟨by decide, by decide, by show Option.map _ (parseMethodDescriptor yX11_defaults.desc) = some 0; decide +kernel⟩ (Nat.le_of_ble_eq_true rfl) rfl dX11_init_154 (fun H locs hP hS => ?_)
  refine lv_aload_n hx hb dX11_init_157 rfl (lv_at hl 0 rfl) ?_
  refine va_get (D := D) (C := RX11) (T := TX11) (N := 29) (ci := 11) (fs := [.ref (ad 1), .int (gt q1 0 1), .int (gt q1 0 2), .ref (ad 2), .ref (ad 3), .int (gt q1 0 5), .int (gt q1 0 6), .int (gt q1 0 7), .int (gt q1 0 8), .int (gt q1 0 9), .long q1.2, .int (gt q1 0 11), .ref (ad 4), .ref (ad 5), .ref (ad 6), .int (gt q1 0 15), .ref (ad 7), .ref (ad 8), .ref (ad 9), .ref (ad 10), .ref (ad 11), .ref (ad 12), .ref (ad 13), .int (gt q1 0 23), .ref (ad 14), .ref (ad 15), .ref (ad 16), .ref (ad 17), .int (gt q1 0 28)]) hx hb hts inG11 hown hK hP 0 (pic_get (by omega)) rfl 4 (by decide) (hts _ (tg 1232 (by decide +kernel) rfl)) (fun _ h9 => h9) rfl dX11_init_158 ?_
  refine lv_iconst (v := 0) hx hb dX11_init_161 (by decide) ?_
  refine lv_iconst (v := 2) hx hb dX11_init_162 (by decide) ?_
  obtain ⟨hin0, e0⟩ := wr_in h2
  refine va_iast (D := D) (f := q1.1 3) hx hb hK hP (D_of_inj hinj hDA) hS 3 0 (pic_get (by omega)) rfl hin0 dX11_init_163 (fun H locs hP _ hS => ?_)
  have hP : va_P D vwCl (pic 18 (shM I) ad q2) H := by rw [e0, st, ← pic_set (sh := shM I) (by omega)]; exact hP
  refine lv_aload_n hx hb dX11_init_164 rfl (lv_at hl 0 rfl) ?_
  refine va_get (D := D) (C := RX11) (T := TX11) (N := 29) (ci := 11) (fs := [.ref (ad 1), .int (gt q2 0 1), .int (gt q2 0 2), .ref (ad 2), .ref (ad 3), .int (gt q2 0 5), .int (gt q2 0 6), .int (gt q2 0 7), .int (gt q2 0 8), .int (gt q2 0 9), .long q2.2, .int (gt q2 0 11), .ref (ad 4), .ref (ad 5), .ref (ad 6), .int (gt q2 0 15), .ref (ad 7), .ref (ad 8), .ref (ad 9), .ref (ad 10), .ref (ad 11), .ref (ad 12), .ref (ad 13), .int (gt q2 0 23), .ref (ad 14), .ref (ad 15), .ref (ad 16), .ref (ad 17), .int (gt q2 0 28)]) hx hb hts inG11 hown hK hP 0 (pic_get (by omega)) rfl 4 (by decide) (hts _ (tg 1232 (by decide +kernel) rfl)) (fun _ h9 => h9) rfl dX11_init_165 ?_
  refine lv_iconst (v := 2) hx hb dX11_init_168 (by decide) ?_
  refine lv_iconst (v := 1) hx hb dX11_init_169 (by decide) ?_
  obtain ⟨hin1, e1⟩ := wr_in h3
  refine va_iast (D := D) (f := q2.1 3) hx hb hK hP (D_of_inj hinj hDA) hS 3 0 (pic_get (by omega)) rfl hin1 dX11_init_170 (fun H locs hP _ hS => ?_)
  have hP : va_P D vwCl (pic 18 (shM I) ad q3) H := by rw [e1, st, ← pic_set (sh := shM I) (by omega)]; exact hP
  refine lv_aload_n hx hb dX11_init_171 rfl (lv_at hl 0 rfl) ?_
  refine va_get (D := D) (C := RX11) (T := TX11) (N := 29) (ci := 11) (fs := [.ref (ad 1), .int (gt q3 0 1), .int (gt q3 0 2), .ref (ad 2), .ref (ad 3), .int (gt q3 0 5), .int (gt q3 0 6), .int (gt q3 0 7), .int (gt q3 0 8), .int (gt q3 0 9), .long q3.2, .int (gt q3 0 11), .ref (ad 4), .ref (ad 5), .ref (ad 6), .int (gt q3 0 15), .ref (ad 7), .ref (ad 8), .ref (ad 9), .ref (ad 10), .ref (ad 11), .ref (ad 12), .ref (ad 13), .int (gt q3 0 23), .ref (ad 14), .ref (ad 15), .ref (ad 16), .ref (ad 17), .int (gt q3 0 28)]) hx hb hts inG11 hown hK hP 0 (pic_get (by omega)) rfl 4 (by decide) (hts _ (tg 1232 (by decide +kernel) rfl)) (fun _ h9 => h9) rfl dX11_init_172 ?_
  refine lv_iconst (v := 3) hx hb dX11_init_175 (by decide) ?_
  refine lv_iconst (v := 1) hx hb dX11_init_176 (by decide) ?_
  obtain ⟨hin2, e2⟩ := wr_in h4
  refine va_iast (D := D) (f := q3.1 3) hx hb hK hP (D_of_inj hinj hDA) hS 3 0 (pic_get (by omega)) rfl hin2 dX11_init_177 (fun H locs hP _ hS => ?_)
  have hP : va_P D vwCl (pic 18 (shM I) ad q4) H := by rw [e2, st, ← pic_set (sh := shM I) (by omega)]; exact hP
  refine lv_aload_n hx hb dX11_init_178 rfl (lv_at hl 0 rfl) ?_
  refine va_get (D := D) (C := RX11) (T := TX11) (N := 29) (ci := 11) (fs := [.ref (ad 1), .int (gt q4 0 1), .int (gt q4 0 2), .ref (ad 2), .ref (ad 3), .int (gt q4 0 5), .int (gt q4 0 6), .int (gt q4 0 7), .int (gt q4 0 8), .int (gt q4 0 9), .long q4.2, .int (gt q4 0 11), .ref (ad 4), .ref (ad 5), .ref (ad 6), .int (gt q4 0 15), .ref (ad 7), .ref (ad 8), .ref (ad 9), .ref (ad 10), .ref (ad 11), .ref (ad 12), .ref (ad 13), .int (gt q4 0 23), .ref (ad 14), .ref (ad 15), .ref (ad 16), .ref (ad 17), .int (gt q4 0 28)]) hx hb hts inG11 hown hK hP 0 (pic_get (by omega)) rfl 4 (by decide) (hts _ (tg 1232 (by decide +kernel) rfl)) (fun _ h9 => h9) rfl dX11_init_179 ?_
  refine lv_sipush (v := 148) hx hb dX11_init_182 (by decide) ?_
  refine lv_iconst (v := 1) hx hb dX11_init_185 (by decide) ?_
  obtain ⟨hin3, e3⟩ := wr_in h5
  refine va_iast (D := D) (f := q4.1 3) hx hb hK hP (D_of_inj hinj hDA) hS 3 0 (pic_get (by omega)) rfl hin3 dX11_init_186 (fun H locs hP _ hS => ?_)
  have hP : va_P D vwCl (pic 18 (shM I) ad q5) H := by rw [e3, st, ← pic_set (sh := shM I) (by omega)]; exact hP
  refine lv_aload_n hx hb dX11_init_187 rfl (lv_at hl 0 rfl) ?_
  refine w_callP (as := []) (kp := 0) ⟨hx, hb, hml, hown, hts⟩ hK hinj (c_M_takesDraft hq) (gd_V (tg 1220 (by decide +kernel) rfl) (tg 1222 (by decide +kernel) rfl) (tg 47 (by decide +kernel) rfl) (tg 128 (by decide +kernel) rfl) (tg 1223 (by decide +kernel) rfl)) (fun _ _ _ => ⟨zT_ok, trivial⟩) (by omega) rfl rfl hP hDA hS hl.1 ⟨rfl, rfl, Nat.le_of_ble_eq_true rfl, Nat.le_of_ble_eq_true rfl⟩ ⟨Nat.le_of_ble_eq_true rfl, Nat.le_of_ble_eq_true rfl⟩ ⟨by decide, by decide, by show Option.map _ (parseMethodDescriptor yX11_takesDraft.desc) = some 0; decide +kernel⟩ (Nat.le_of_ble_eq_true rfl) rfl dX11_init_188 (fun H locs hP hS => ?_)
  refine W.widen (k := 20) (n := 6000) (Nat.le_of_ble_eq_true rfl) (Nat.le_of_ble_eq_true rfl) ?_
  rw [← hQe]
  exact W.vret hx hb hr (fun t ht hW => ⟨⟨ad, rfl, had0, by rw [ht]; exact hP, D_of_inj hinj hDA⟩, hS.F ht⟩) hS.2.2 dX11_init_191
