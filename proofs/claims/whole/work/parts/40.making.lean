/-! ===== MAKING: the judgement Bt over a growing list of cells ===== -/
abbrev Bv : Type := Program × Launch × Env × Room × State × MethodId × Array Value × List Frame × Method × Code × (State → Prop) × va_G × (ClassId × ClassId × ClassId × ClassId) × (Nat → Prop) × Heap × Nat
def Bt (X : Bv) (pc : Nat) (lv : List (Nat × Value)) (sk : List Value) (ws : va_W) (cs sl : Nat) : Prop := match X with
  | (p, l, e, R, s, m, args, below, meth, c, Q, D, _, A, H0, nL) => ∀ (H : Heap) (locs : List Loc) (ls : Array Slot), va_P D vwCl ws H → va_D A ws → va_S A H0 H locs → lv_has ls nL lv → W p l e R s m args below meth c H locs cs sl Q (F0 m pc ls sk)
def Bx (X : Bv) (cc : ByteArray) (own : String) (rm : Room) (nL1 : Nat) : Prop := match X with
  | (p, _, _, R, s, m, args, _, meth, c, _, D, I, A, H0, nL) => CallFix p m c cc nL s args lw_tg own ∧ va_K D vwCl (tysL I) s ∧ R = rm ∧ nL = nL1 ∧ (∀ q, H0.size ≤ q → A q) ∧ meth.name = "<init>"
abbrev biOf (X : Bv) : ClassId × ClassId × ClassId × ClassId := X.2.2.2.2.2.2.2.2.2.2.2.2.1
abbrev bdOf (X : Bv) : va_G := X.2.2.2.2.2.2.2.2.2.2.2.1
def z0 : St := (fun _ _ => 0, 0)
/-- a constructor's contract: the blank object at h0 becomes the block B a, a 0 being h0 -/
def CtI (l : Launch) (D : va_G) (I : ClassId × ClassId × ClassId × ClassId) (N : State → Prop) (y : MethodName) (cc : ByteArray) (nL : Nat) (rm : Room) (h0 : Nat) (as : List Value) (e0 : va_E) (B : (Nat → Nat) → va_W) : Prop := ∀ sz : Nat,
  Met l y (Cond.code y cc nL none :: lw_tg) rm (va_Pc (.ref h0 :: as) (fun U => U.heap.size = sz ∧ va_P D vwCl [(h0, e0)] U.heap ∧ va_K D vwCl (tysL I) U ∧ N U))
    (va_Qv (fun a : Nat → Nat => a 0 = h0) (fun a t => va_P D vwCl (B a) t.heap ∧ va_D (va_A [(h0, e0)] sz) (B a)) (va_A [(h0, e0)] sz)) rm.cells rm.slots (va_A [(h0, e0)] sz)
/-- what a premise N of a constructor must bear: a caller's frame, a warmer machine -/
def NS (N : State → Prop) : Prop := (∀ s U : State, N s → s.WarmedH U.vm → N U) ∧ ∀ (U : State) (g : JFrame) (mk : MethodId) (a : Array Value), N U → N (U.calling g mk a)
def nT : State → Prop := fun _ => True
theorem nT_ok : NS nT := ⟨fun _ _ _ _ => trivial, fun _ _ _ _ _ => trivial⟩
theorem e_iconst {X : Bv} {cc : ByteArray} {own : String} {rm : Room} {nL1 pc cs sl : Nat} {lv : List (Nat × Value)} {sk : List Value} {ws : va_W} (C : Bx X cc own rm nL1) {n0 : Int} {v : Int32} (hv : Int32.ofInt n0 = v) (hd : decode cc pc = .ok (.iconst n0, 1)) (k : Bt X (pc + 1) lv (.int v :: sk) ws cs sl) : Bt X pc lv (sk) ws cs sl := by
  obtain ⟨p, l, e, R, s, m, args, below, meth, c, Q, D, I, A, H0, nL⟩ := X
  obtain ⟨⟨hx, hb, hml, hown, hts⟩, hK, hR, hnL, hA, hin⟩ := C
  exact fun H locs ls hP hD hS hl => lv_iconst hx hb hd hv (k H locs ls hP hD hS hl)
theorem e_bipush {X : Bv} {cc : ByteArray} {own : String} {rm : Room} {nL1 pc cs sl : Nat} {lv : List (Nat × Value)} {sk : List Value} {ws : va_W} (C : Bx X cc own rm nL1) {n0 : Int} {v : Int32} (hv : (Int8.ofInt n0).toInt32 = v) (hd : decode cc pc = .ok (.bipush n0, 2)) (k : Bt X (pc + 2) lv (.int v :: sk) ws cs sl) : Bt X pc lv (sk) ws cs sl := by
  obtain ⟨p, l, e, R, s, m, args, below, meth, c, Q, D, I, A, H0, nL⟩ := X
  obtain ⟨⟨hx, hb, hml, hown, hts⟩, hK, hR, hnL, hA, hin⟩ := C
  exact fun H locs ls hP hD hS hl => lv_bipush hx hb hd hv (k H locs ls hP hD hS hl)
theorem e_sipush {X : Bv} {cc : ByteArray} {own : String} {rm : Room} {nL1 pc cs sl : Nat} {lv : List (Nat × Value)} {sk : List Value} {ws : va_W} (C : Bx X cc own rm nL1) {n0 : Int} {v : Int32} (hv : (Int16.ofInt n0).toInt32 = v) (hd : decode cc pc = .ok (.sipush n0, 3)) (k : Bt X (pc + 3) lv (.int v :: sk) ws cs sl) : Bt X pc lv (sk) ws cs sl := by
  obtain ⟨p, l, e, R, s, m, args, below, meth, c, Q, D, I, A, H0, nL⟩ := X
  obtain ⟨⟨hx, hb, hml, hown, hts⟩, hK, hR, hnL, hA, hin⟩ := C
  exact fun H locs ls hP hD hS hl => lv_sipush hx hb hd hv (k H locs ls hP hD hS hl)
theorem e_dup {X : Bv} {cc : ByteArray} {own : String} {rm : Room} {nL1 pc cs sl : Nat} {lv : List (Nat × Value)} {sk : List Value} {ws : va_W} (C : Bx X cc own rm nL1) {va : Value} (hva : va.category = 1) (hd : decode cc pc = .ok (.dup, 1)) (k : Bt X (pc + 1) lv (va :: va :: sk) ws cs sl) : Bt X pc lv (va :: sk) ws cs sl := by
  obtain ⟨p, l, e, R, s, m, args, below, meth, c, Q, D, I, A, H0, nL⟩ := X
  obtain ⟨⟨hx, hb, hml, hown, hts⟩, hK, hR, hnL, hA, hin⟩ := C
  exact fun H locs ls hP hD hS hl => lv_dup hx hb hd hva (k H locs ls hP hD hS hl)
theorem e_aload {X : Bv} {cc : ByteArray} {own : String} {rm : Room} {nL1 pc cs sl : Nat} {lv : List (Nat × Value)} {sk : List Value} {ws : va_W} (C : Bx X cc own rm nL1) {kk : Fin 4} {i : Nat} {x : Nat} (j : Nat) (hj : lv[j]? = some (i, .ref x)) (hi : (kk : Nat) = i) (hd : decode cc pc = .ok (.aload_n kk, 1)) (k : Bt X (pc + 1) lv (.ref x :: sk) ws cs sl) : Bt X pc lv sk ws cs sl := by
  obtain ⟨p, l, e, R, s, m, args, below, meth, c, Q, D, I, A, H0, nL⟩ := X
  obtain ⟨⟨hx, hb, hml, hown, hts⟩, hK, hR, hnL, hA, hin⟩ := C
  exact fun H locs ls hP hD hS hl => lv_aload_n hx hb hd hi (lv_at hl j hj) (k H locs ls hP hD hS hl)
theorem e_iload {X : Bv} {cc : ByteArray} {own : String} {rm : Room} {nL1 pc cs sl : Nat} {lv : List (Nat × Value)} {sk : List Value} {ws : va_W} (C : Bx X cc own rm nL1) {kk : Fin 4} {i : Nat} {x : Int32} (j : Nat) (hj : lv[j]? = some (i, .int x)) (hi : (kk : Nat) = i) (hd : decode cc pc = .ok (.iload_n kk, 1)) (k : Bt X (pc + 1) lv (.int x :: sk) ws cs sl) : Bt X pc lv sk ws cs sl := by
  obtain ⟨p, l, e, R, s, m, args, below, meth, c, Q, D, I, A, H0, nL⟩ := X
  obtain ⟨⟨hx, hb, hml, hown, hts⟩, hK, hR, hnL, hA, hin⟩ := C
  exact fun H locs ls hP hD hS hl => lv_iload_n hx hb hd hi (lv_at hl j hj) (k H locs ls hP hD hS hl)
theorem e_aloadX {X : Bv} {cc : ByteArray} {own : String} {rm : Room} {nL1 pc cs sl : Nat} {lv : List (Nat × Value)} {sk : List Value} {ws : va_W} (C : Bx X cc own rm nL1) {i : Nat} {x : Nat} (j : Nat) (hj : lv[j]? = some (i, .ref x)) (hd : decode cc pc = .ok (.aload i, 2)) (k : Bt X (pc + 2) lv (.ref x :: sk) ws cs sl) : Bt X pc lv sk ws cs sl := by
  obtain ⟨p, l, e, R, s, m, args, below, meth, c, Q, D, I, A, H0, nL⟩ := X
  obtain ⟨⟨hx, hb, hml, hown, hts⟩, hK, hR, hnL, hA, hin⟩ := C
  exact fun H locs ls hP hD hS hl => lv_aload hx hb hd (lv_at hl j hj) (k H locs ls hP hD hS hl)
theorem e_istore {X : Bv} {cc : ByteArray} {own : String} {rm : Room} {nL1 pc cs sl : Nat} {lv : List (Nat × Value)} {sk : List Value} {ws : va_W} (C : Bx X cc own rm nL1) {kk : Fin 4} {i : Nat} {x : Int32} (lv2 : List (Nat × Value)) (hi : (kk : Nat) = i) (hn : i < nL1) (hl2 : (i, Value.int x) :: lv.filter (fun q => !(q.1 == i) && !(q.1 + 1 == i && q.2.category == 2)) = lv2) (hd : decode cc pc = .ok (.istore_n kk, 1)) (k : Bt X (pc + 1) lv2 sk ws cs sl) : Bt X pc lv (.int x :: sk) ws cs sl := by
  obtain ⟨p, l, e, R, s, m, args, below, meth, c, Q, D, I, A, H0, nL⟩ := X
  obtain ⟨⟨hx, hb, hml, hown, hts⟩, hK, hR, hnL, hA, hin⟩ := C
  subst hnL
  exact fun H locs ls hP hD hS hl => lv_istore_n hx hb hd hi hl hn hl2 (fun ls hl => k H locs ls hP hD hS hl)
theorem e_iinc {X : Bv} {cc : ByteArray} {own : String} {rm : Room} {nL1 pc cs sl : Nat} {lv : List (Nat × Value)} {sk : List Value} {ws : va_W} (C : Bx X cc own rm nL1) {i : Nat} {n0 : Int} {x v : Int32} (lv2 : List (Nat × Value)) (j : Nat) (hj : lv[j]? = some (i, .int x)) (hv : x + Int32.ofInt n0 = v) (hn : i < nL1) (hl2 : (i, Value.int v) :: lv.filter (fun q => !(q.1 == i) && !(q.1 + 1 == i && q.2.category == 2)) = lv2) (hd : decode cc pc = .ok (.iinc i n0, 3)) (k : Bt X (pc + 3) lv2 sk ws cs sl) : Bt X pc lv sk ws cs sl := by
  obtain ⟨p, l, e, R, s, m, args, below, meth, c, Q, D, I, A, H0, nL⟩ := X
  obtain ⟨⟨hx, hb, hml, hown, hts⟩, hK, hR, hnL, hA, hin⟩ := C
  subst hnL
  exact fun H locs ls hP hD hS hl => lv_iinc hx hb hd hl hj hv hn hl2 (fun ls hl => k H locs ls hP hD hS hl)
theorem e_icmp_ge {X : Bv} {cc : ByteArray} {own : String} {rm : Room} {nL1 pc cs sl : Nat} {lv : List (Nat × Value)} {sk : List Value} {ws : va_W} (C : Bx X cc own rm nL1) {x y : Int32} {off : Int} (tgt : Nat) (ht : (pc : Int) + off = (tgt : Int)) (hd : decode cc pc = .ok (.if_icmp .ge off, 3)) (kt : y ≤ x → Bt X tgt lv sk ws cs sl) (kf : ¬ y ≤ x → Bt X (pc + 3) lv sk ws cs sl) : Bt X pc lv (.int y :: .int x :: sk) ws cs sl := by
  obtain ⟨p, l, e, R, s, m, args, below, meth, c, Q, D, I, A, H0, nL⟩ := X
  obtain ⟨⟨hx, hb, hml, hown, hts⟩, hK, hR, hnL, hA, hin⟩ := C
  exact fun H locs ls hP hD hS hl => lv_icmp_ge hx hb hd ht (fun h => kt h H locs ls hP hD hS hl) (fun h => kf h H locs ls hP hD hS hl)
theorem e_goto {X : Bv} {cc : ByteArray} {own : String} {rm : Room} {nL1 pc cs sl : Nat} {lv : List (Nat × Value)} {sk : List Value} {ws : va_W} (C : Bx X cc own rm nL1) {off : Int} (tgt : Nat) (ht : (pc : Int) + off = (tgt : Int)) (hd : decode cc pc = .ok (.goto off, 3)) (k : Bt X tgt lv sk ws cs sl) : Bt X pc lv sk ws cs sl := by
  obtain ⟨p, l, e, R, s, m, args, below, meth, c, Q, D, I, A, H0, nL⟩ := X
  obtain ⟨⟨hx, hb, hml, hown, hts⟩, hK, hR, hnL, hA, hin⟩ := C
  exact fun H locs ls hP hD hS hl => lv_goto hx hb hd ht (k H locs ls hP hD hS hl)
theorem e_obj {X : Bv} {cc : ByteArray} {own : String} {rm : Room} {nL1 pc cs sl : Nat} {lv : List (Nat × Value)} {sk : List Value} {ws : va_W} (C : Bx X cc own rm nL1) {idx : Nat} {a : Nat} (hlk : Cond.methodLink own idx Lib.objectInit ∈ lw_tg) (hfr : 1 ≤ rm.frames) (hlo : (sk.map fun v => v.category).sum + 12 ≤ rm.locals) (hd : decode cc pc = .ok (.invokespecial idx, 3)) (k : Bt X (pc + 3) lv sk ws cs sl) : Bt X pc lv (.ref a :: sk) ws cs sl := by
  obtain ⟨p, l, e, R, s, m, args, below, meth, c, Q, D, I, A, H0, nL⟩ := X
  obtain ⟨⟨hx, hb, hml, hown, hts⟩, hK, hR, hnL, hA, hin⟩ := C
  subst hR
  exact fun H locs ls hP hD hS hl => W.objInit hx hb hown (hts _ hlk) (hts _ (tg 141 (by decide +kernel) rfl)) (hts _ (tg 142 (by decide +kernel) rfl)) rfl (by rw [hml]; exact hl.1) rfl hd hfr (by show 2 * 0 + _ + 12 ≤ _; omega) (k H locs ls hP hD hS hl)
theorem ra_eq {s : State} {cA cB : ClassId} {ty : FieldType} (h1 : va_RA s cA ty) (h2 : va_RA s cB ty) : cA = cB := by
  cases ty with
  | object C =>
    obtain ⟨_, _, _, _, _, h1⟩ := h1
    obtain ⟨_, _, _, _, _, h2⟩ := h2
    exact Option.some.inj (h1.symm.trans h2)
  | _ => exact Option.some.inj (Eq.trans (Eq.symm h1) h2)
theorem e_newI {X : Bv} {cc : ByteArray} {own : String} {rm : Room} {nL1 pc cs sl : Nat} {lv : List (Nat × Value)} {sk : List Value} {ws : va_W} (C : Bx X cc own rm nL1) {n : Int32} {N : Nat} (hn : ¬ n < 0) (hN : n.toNatClampNeg = N) (hby : N * componentBytes .int ≤ 536870912) (hc1 : cs + 1 ≤ rm.cells) (hs1 : sl + N ≤ rm.slots) (hd : decode cc pc = .ok (.newarray .int, 2)) (k : ∀ q : Nat, Bt X (pc + 2) lv (.ref q :: sk) (ws ++ [(q, .inl ((biOf X).1, N, .inl (fun _ => 0)))]) (cs + 1) (sl + N)) : Bt X pc lv (.int n :: sk) ws cs sl := by
  obtain ⟨p, l, e, R, s, m, args, below, meth, c, Q, D, I, A, H0, nL⟩ := X
  obtain ⟨⟨hx, hb, hml, hown, hts⟩, hK, hR, hnL, hA, hin⟩ := C
  subst hR
  intro H locs ls hP hD hS hl
  refine va_newa (atype := .int) (ty := .int) (a0 := (N, .inl (fun _ => 0))) hx hb (hts _ (tg 217 (by decide +kernel) rfl)) rfl hK hP hD hS hA (fun cA => rfl) hn hN hby hc1 hs1 hd (fun q cA H1 hK1 hP1 hD1 hS1 => ?_)
  have e1 : cA = I.1 := ra_eq (hK1.2 4 (cA, .int) rfl).2 (hK.2 0 (I.1, .int) rfl).2
  subst e1
  exact k q H1 locs ls hP1 hD1 hS1 hl
theorem e_newB {X : Bv} {cc : ByteArray} {own : String} {rm : Room} {nL1 pc cs sl : Nat} {lv : List (Nat × Value)} {sk : List Value} {ws : va_W} (C : Bx X cc own rm nL1) {n : Int32} {N : Nat} (hn : ¬ n < 0) (hN : n.toNatClampNeg = N) (hby : N * componentBytes .byte ≤ 536870912) (hc1 : cs + 1 ≤ rm.cells) (hs1 : sl + N ≤ rm.slots) (hd : decode cc pc = .ok (.newarray .byte, 2)) (k : ∀ q : Nat, Bt X (pc + 2) lv (.ref q :: sk) (ws ++ [(q, .inl ((biOf X).2.1, N, .inl (fun _ => 0)))]) (cs + 1) (sl + N)) : Bt X pc lv (.int n :: sk) ws cs sl := by
  obtain ⟨p, l, e, R, s, m, args, below, meth, c, Q, D, I, A, H0, nL⟩ := X
  obtain ⟨⟨hx, hb, hml, hown, hts⟩, hK, hR, hnL, hA, hin⟩ := C
  subst hR
  intro H locs ls hP hD hS hl
  refine va_newa (atype := .byte) (ty := .byte) (a0 := (N, .inl (fun _ => 0))) hx hb (hts _ (tg 708 (by decide +kernel) rfl)) rfl hK hP hD hS hA (fun cA => rfl) hn hN hby hc1 hs1 hd (fun q cA H1 hK1 hP1 hD1 hS1 => ?_)
  have e1 : cA = I.2.1 := ra_eq (hK1.2 4 (cA, .byte) rfl).2 (hK.2 1 (I.2.1, .byte) rfl).2
  subst e1
  exact k q H1 locs ls hP1 hD1 hS1 hl
theorem e_newZ {X : Bv} {cc : ByteArray} {own : String} {rm : Room} {nL1 pc cs sl : Nat} {lv : List (Nat × Value)} {sk : List Value} {ws : va_W} (C : Bx X cc own rm nL1) {n : Int32} {N : Nat} (hn : ¬ n < 0) (hN : n.toNatClampNeg = N) (hby : N * componentBytes .boolean ≤ 536870912) (hc1 : cs + 1 ≤ rm.cells) (hs1 : sl + N ≤ rm.slots) (hd : decode cc pc = .ok (.newarray .boolean, 2)) (k : ∀ q : Nat, Bt X (pc + 2) lv (.ref q :: sk) (ws ++ [(q, .inl ((biOf X).2.2.1, N, .inl (fun _ => 0)))]) (cs + 1) (sl + N)) : Bt X pc lv (.int n :: sk) ws cs sl := by
  obtain ⟨p, l, e, R, s, m, args, below, meth, c, Q, D, I, A, H0, nL⟩ := X
  obtain ⟨⟨hx, hb, hml, hown, hts⟩, hK, hR, hnL, hA, hin⟩ := C
  subst hR
  intro H locs ls hP hD hS hl
  refine va_newa (atype := .boolean) (ty := .boolean) (a0 := (N, .inl (fun _ => 0))) hx hb (hts _ (tg 295 (by decide +kernel) rfl)) rfl hK hP hD hS hA (fun cA => rfl) hn hN hby hc1 hs1 hd (fun q cA H1 hK1 hP1 hD1 hS1 => ?_)
  have e1 : cA = I.2.2.1 := ra_eq (hK1.2 4 (cA, .boolean) rfl).2 (hK.2 2 (I.2.2.1, .boolean) rfl).2
  subst e1
  exact k q H1 locs ls hP1 hD1 hS1 hl
theorem e_newS {X : Bv} {cc : ByteArray} {own : String} {rm : Room} {nL1 pc cs sl : Nat} {lv : List (Nat × Value)} {sk : List Value} {ws : va_W} (C : Bx X cc own rm nL1) {n : Int32} {N ix : Nat} (hlk : Cond.classLink own ix "LayeredMulticast$State" ∈ lw_tg) (hov : va_AO "LayeredMulticast$State" X.2.2.2.2.1) (hn : ¬ n < 0) (hN : n.toNatClampNeg = N) (hby : N * 4 ≤ 536870912) (hc1 : cs + 1 ≤ rm.cells) (hs1 : sl + N ≤ rm.slots) (hd : decode cc pc = .ok (.anewarray ix, 3)) (k : ∀ q : Nat, Bt X (pc + 3) lv (.ref q :: sk) (ws ++ [(q, .inl ((biOf X).2.2.2, N, .inr (.inr (.inr (.inr (fun _ => none))))))]) (cs + 1) (sl + N)) : Bt X pc lv (.int n :: sk) ws cs sl := by
  obtain ⟨p, l, e, R, s, m, args, below, meth, c, Q, D, I, A, H0, nL⟩ := X
  obtain ⟨⟨hx, hb, hml, hown, hts⟩, hK, hR, hnL, hA, hin⟩ := C
  subst hR
  intro H locs ls hP hD hS hl
  refine va_newq hx hb hown (hts _ hlk) hov hK hP hD hS hA hn hN hby hc1 hs1 hd (fun q cA H1 hK1 hP1 hD1 hS1 => ?_)
  have e1 : cA = I.2.2.2 := ra_eq (hK1.2 4 (cA, .object "LayeredMulticast$State") rfl).2 (hK.2 3 (I.2.2.2, .object "LayeredMulticast$State") rfl).2
  subst e1
  exact k q H1 locs ls hP1 hD1 hS1 hl
theorem e_get {X : Bv} {cc : ByteArray} {own : String} {rm : Room} {nL1 pc cs sl : Nat} {lv : List (Nat × Value)} {sk : List Value} {ws : va_W} (C : Bx X cc own rm nL1) {Cn : String} {T : u_T} {N ci ix : Nat} {a : Nat} {fs : List Value} {v : Value} (hc : vwCl[ci]? = some (Cn, T, N)) (hin1 : ∀ w ∈ u_ws Cn T N, w ∈ lw_tg) (k0 : Nat) (hk : k0 < N) (hv : fs[k0]? = some v) (hT : (T k0).1 = Cn) (hlk : Cond.fieldLink own ix Cn (T k0).2.1 (T k0).2.2.1 ∈ lw_tg) (hd : decode cc pc = .ok (.getfield ix, 3)) (k : Bt X (pc + 3) lv (v :: sk) ((a, .inr (ci, fs)) :: ws) cs sl) : Bt X pc lv (.ref a :: sk) ((a, .inr (ci, fs)) :: ws) cs sl := by
  obtain ⟨p, l, e, R, s, m, args, below, meth, c, Q, D, I, A, H0, nL⟩ := X
  obtain ⟨⟨hx, hb, hml, hown, hts⟩, hK, hR, hnL, hA, hin⟩ := C
  exact fun H locs ls hP hD hS hl => va_get (D := D) (C := Cn) (T := T) (N := N) hx hb hts hin1 hown hK hP 0 rfl hc k0 hk (hts _ hlk) (fun _ h9 => by rw [hT] at h9; exact h9) hv hd (k H locs ls hP hD hS hl)
theorem e_putF {X : Bv} {cc : ByteArray} {own : String} {rm : Room} {nL1 pc cs sl : Nat} {lv : List (Nat × Value)} {sk : List Value} {ws : va_W} (C : Bx X cc own rm nL1) {Cn : String} {T : u_T} {N ci ix : Nat} {a : Nat} {fs fs2 : List Value} {v : Value} (hc : vwCl[ci]? = some (Cn, T, N)) (hin1 : ∀ w ∈ u_ws Cn T N, w ∈ lw_tg) (ty0 : Nat → FieldType) (hty : ∀ k, k < N → parseFieldDescriptor (T k).2.2.1 = some (ty0 k)) (hnm : ∀ a, a < N → ∀ b, b < N → a ≠ b → (T a).2.1 ≠ (T b).2.1) (k0 : Nat) (hk : k0 < N) (hl0 : k0 < fs.length) (hT : (T k0).1 = Cn) (hlk : Cond.fieldLink own ix Cn (T k0).2.1 (T k0).2.2.1 ∈ lw_tg) (hfin : (T k0).2.2.2 = true) (hdecl : (T k0).1 = own) (hn : narrow (ty0 k0) v = v) (hfit : fits (ty0 k0) v = true) (hf2 : fs.set k0 v = fs2) (hd : decode cc pc = .ok (.putfield ix, 3)) (k : Bt X (pc + 3) lv sk ((a, .inr (ci, fs2)) :: ws) cs sl) : Bt X pc lv (v :: .ref a :: sk) ((a, .inr (ci, fs)) :: ws) cs sl := by
  obtain ⟨p, l, e, R, s, m, args, below, meth, c, Q, D, I, A, H0, nL⟩ := X
  obtain ⟨⟨hx, hb, hml, hown, hts⟩, hK, hR, hnL, hA, hin⟩ := C
  subst hf2
  exact fun H locs ls hP hD hS hl => va_putF (D := D) (C := Cn) (T := T) (N := N) hx hb hts hin1 ty0 hty hnm hown hK hP hD hS 0 rfl hc k0 hk (hts _ hlk) (fun _ h9 => by rw [hT] at h9; exact h9) hfin hin hdecl (hty k0 hk) hn hfit hl0 hd (fun H1 locs1 hP1 hD1 hS1 => k H1 locs1 ls hP1 hD1 hS1 hl)
theorem e_put {X : Bv} {cc : ByteArray} {own : String} {rm : Room} {nL1 pc cs sl : Nat} {lv : List (Nat × Value)} {sk : List Value} {ws : va_W} (C : Bx X cc own rm nL1) {Cn : String} {T : u_T} {N ci ix : Nat} {a : Nat} {fs fs2 : List Value} {v : Value} (hc : vwCl[ci]? = some (Cn, T, N)) (hin1 : ∀ w ∈ u_ws Cn T N, w ∈ lw_tg) (ty0 : Nat → FieldType) (hty : ∀ k, k < N → parseFieldDescriptor (T k).2.2.1 = some (ty0 k)) (hnm : ∀ a, a < N → ∀ b, b < N → a ≠ b → (T a).2.1 ≠ (T b).2.1) (k0 : Nat) (hk : k0 < N) (hl0 : k0 < fs.length) (hT : (T k0).1 = Cn) (hlk : Cond.fieldLink own ix Cn (T k0).2.1 (T k0).2.2.1 ∈ lw_tg) (hfin : (T k0).2.2.2 = false) (hn : narrow (ty0 k0) v = v) (hfit : fits (ty0 k0) v = true) (hf2 : fs.set k0 v = fs2) (hd : decode cc pc = .ok (.putfield ix, 3)) (k : Bt X (pc + 3) lv sk ((a, .inr (ci, fs2)) :: ws) cs sl) : Bt X pc lv (v :: .ref a :: sk) ((a, .inr (ci, fs)) :: ws) cs sl := by
  obtain ⟨p, l, e, R, s, m, args, below, meth, c, Q, D, I, A, H0, nL⟩ := X
  obtain ⟨⟨hx, hb, hml, hown, hts⟩, hK, hR, hnL, hA, hin⟩ := C
  subst hf2
  exact fun H locs ls hP hD hS hl => va_put (D := D) (C := Cn) (T := T) (N := N) hx hb hts hin1 ty0 hty hnm hown hK hP hD hS 0 rfl hc k0 hk (hts _ hlk) (fun _ h9 => by rw [hT] at h9; exact h9) hfin (hty k0 hk) hn hfit hl0 hd (fun H1 locs1 hP1 hD1 hS1 => k H1 locs1 ls hP1 hD1 hS1 hl)
theorem e_new {X : Bv} {cc : ByteArray} {own : String} {rm : Room} {nL1 pc cs sl : Nat} {lv : List (Nat × Value)} {sk : List Value} {ws : va_W} (C : Bx X cc own rm nL1) {Cn : String} {T : u_T} {N ci ix : Nat} {fs : List Value} (hc : vwCl[ci]? = some (Cn, T, N)) (hin1 : ∀ w ∈ u_ws Cn T N, w ∈ lw_tg) (ty0 : Nat → FieldType) (hty : ∀ k, k < N → parseFieldDescriptor (T k).2.2.1 = some (ty0 k)) (hcl : Cond.classLink own ix Cn ∈ lw_tg) (hinst : Cond.instantiable Cn N ∈ lw_tg) (hini : Cond.initialized Cn ∈ lw_tg) (hfs : ∀ j, j < N → defaultValue (ty0 j) = vp_V fs j) (hc1 : cs + 1 ≤ rm.cells) (hs1 : sl + N ≤ rm.slots) (hd : decode cc pc = .ok (.new ix, 3)) (k : ∀ q : Nat, Bt X (pc + 3) lv (.ref q :: sk) (ws ++ [(q, .inr (ci, fs))]) (cs + 1) (sl + N)) : Bt X pc lv sk ws cs sl := by
  obtain ⟨p, l, e, R, s, m, args, below, meth, c, Q, D, I, A, H0, nL⟩ := X
  obtain ⟨⟨hx, hb, hml, hown, hts⟩, hK, hR, hnL, hA, hin⟩ := C
  subst hR
  exact fun H locs ls hP hD hS hl => va_new (D := D) (C := Cn) (T := T) (N := N) hx hb hts hin1 ty0 hty hown (hts _ hcl) (hts _ hinst) (hts _ hini) hK hP hD hS hA hc hfs hc1 hs1 hd (fun q H1 hP1 hD1 hS1 => k q H1 locs ls hP1 hD1 hS1 hl)
/-- what came back of a constructor, beside the rest -/
theorem mk_join {A0 : Nat → Prop} {D : va_G} {cl : List vw_C} {ws bl : va_W} {q : Nat} {e0 : va_E} {H0 H H1 : Heap} {locs : List Loc} (hP : va_P D cl (ws ++ [(q, e0)]) H) (hD : va_D A0 (ws ++ [(q, e0)])) (hS : va_S A0 H0 H locs) (hA : ∀ q, H0.size ≤ q → A0 q) (hk : ∀ z : Nat, z < H.size → ¬ va_A [(q, e0)] H.size z → H1[z]? = H[z]?) (hP1 : va_P D cl bl H1) (hD1 : va_D (va_A [(q, e0)] H.size) bl) : va_P D cl (ws ++ bl) H1 ∧ va_D A0 (ws ++ bl) := by
  have hq : (ws ++ [(q, e0)])[ws.length]? = some (q, e0) := by simp
  have hin : ∀ (k : Nat) (z : Nat × va_E), ws[k]? = some z → (ws ++ [(q, e0)])[k]? = some z := fun k z h => by
    rw [List.getElem?_append_left (List.getElem?_eq_some_iff.mp h).1]; exact h
  have hne : ∀ (k : Nat) (z : Nat × va_E), ws[k]? = some z → z.1 < H.size ∧ ¬ va_A [(q, e0)] H.size z.1 := fun k z h => by
    have hlt := (hP k z (hin k z h)).lt
    refine ⟨hlt, fun ha => ?_⟩
    rcases ha with ⟨i, e, hi⟩ | ha
    · have : i = 0 := by
        have := (List.getElem?_eq_some_iff.mp hi).1
        simp at this; exact this
      subst this
      have hz : z.1 = q := by simp at hi; exact hi.1.symm
      have := hD.1 k ws.length z (q, e0) (hin k z h) hq hz
      have := (List.getElem?_eq_some_iff.mp h).1
      omega
    · omega
  have hbA : ∀ (k : Nat) (z : Nat × va_E), bl[k]? = some z → A0 z.1 := fun k z h => by
    rcases hD1.2 k z h with ⟨i, e, hi⟩ | ha
    · have : i = 0 := by
        have := (List.getElem?_eq_some_iff.mp hi).1
        simp at this; exact this
      subst this
      have hz : z.1 = q := by simp at hi; exact hi.1.symm
      rw [hz]; exact hD.2 ws.length (q, e0) hq
    · exact hA _ (Nat.le_trans hS.1 ha)
  refine ⟨va_P.app (fun k z h => (hP k z (hin k z h)).kept (hk _ (hne k z h).1 (hne k z h).2)) hP1, ?_, ?_⟩
  · intro i j a b hi hj e
    by_cases h1 : i < ws.length
    · rw [List.getElem?_append_left h1] at hi
      by_cases h2 : j < ws.length
      · rw [List.getElem?_append_left h2] at hj
        exact hD.1 i j a b (hin i a hi) (hin j b hj) e
      · rw [List.getElem?_append_right (by omega)] at hj
        exact absurd (e ▸ hD1.2 _ b hj) (hne i a hi).2
    · rw [List.getElem?_append_right (by omega)] at hi
      by_cases h2 : j < ws.length
      · rw [List.getElem?_append_left h2] at hj
        exact absurd (e.symm ▸ hD1.2 _ a hi) (hne j b hj).2
      · rw [List.getElem?_append_right (by omega)] at hj
        have := hD1.1 _ _ a b hi hj e
        omega
  · intro k z h
    by_cases h1 : k < ws.length
    · rw [List.getElem?_append_left h1] at h
      exact hD.2 k z (hin k z h)
    · rw [List.getElem?_append_right (by omega)] at h
      exact hbA _ z h
theorem e_ctor {X : Bv} {cc : ByteArray} {own : String} {rm : Room} {nL1 pc cs sl : Nat} {lv : List (Nat × Value)} {sk : List Value} {ws : va_W} (C : Bx X cc own rm nL1) {y : MethodName} {bytes : ByteArray} {maxL ix : Nat} {rm2 : Room} {as : List Value} {q : Nat} {e0 : va_E} {B : (Nat → Nat) → va_W} {N : State → Prop} {sk0 : List Value} (hM : CtI X.2.1 (bdOf X) (biOf X) N y bytes maxL rm2 q as e0 B) (hN : NS N) (hN0 : N X.2.2.2.2.1) (hlk : Cond.methodLink own ix y ∈ lw_tg) (hco : Cond.code y bytes maxL none ∈ lw_tg) (hini : Cond.initialized y.cls ∈ lw_tg) (him : Cond.instanceMethod y ∈ lw_tg) (hy1 : y.name = "<init>") (hy : y.cls ≠ "java/lang/invoke/MethodHandle" ∧ y.cls ≠ "java/lang/invoke/VarHandle" ∧ (parseMethodDescriptor y.desc).map (fun d => d.parameters.length) = some as.length) (hz : rm2.frames + 1 ≤ rm.frames ∧ 8 + (maxL + 11) + rm2.locals ≤ rm.locals) (hf : cs + rm2.cells ≤ rm.cells ∧ sl + rm2.slots ≤ rm.slots) (hr : (sk.map fun v => v.category).sum ≤ 8) (hsk : as.reverse ++ .ref q :: sk = sk0) (hd : decode cc pc = .ok (.invokespecial ix, 3)) (k : ∀ a : Nat → Nat, a 0 = q → Bt X (pc + 3) lv sk (ws ++ B a) (cs + rm2.cells) (sl + rm2.slots)) : Bt X pc lv sk0 (ws ++ [(q, e0)]) cs sl := by
  obtain ⟨p, l, e, R, s, m, args, below, meth, c, Q, D, I, A, H0, nL⟩ := X
  obtain ⟨⟨hx, hb, hml, hown, hts⟩, hK, hR, hnL, hA, hin⟩ := C
  subst hR; subst hsk
  intro H locs ls hP hD hS hl
  have hlast : (ws ++ [(q, e0)])[ws.length]? = some (q, e0) := by simp
  have hPq : va_P D vwCl [(q, e0)] H := fun k z hk => by
    have : k = 0 := by
      have := (List.getElem?_eq_some_iff.mp hk).1
      simp at this; exact this
    subst this
    cases hk
    exact hP _ _ hlast
  have hFc : ∀ z, va_A [(q, e0)] H.size z → A z := fun z hz => by
    rcases hz with ⟨i, e, hi⟩ | hz
    · have : i = 0 := by
        have := (List.getElem?_eq_some_iff.mp hi).1
        simp at this; exact this
      subst this
      have hz : q = z := by simp at hi; exact hi.1
      subst hz
      exact hD.2 _ _ hlast
    · exact hA _ (Nat.le_trans hS.1 hz)
  refine va_callv (va_runI (b := q) (As := as) (rest := sk) ⟨hx, hb, hml, hown, hts⟩ (hM H.size) ⟨callB_of as.length hts (gd_code hco) rfl rfl rfl (hts _ hini) (hts _ hlk) hy hz, hy1, hts _ him⟩ ⟨fun a U g mk z => by obtain ⟨z0, z1, zP, zK, zN⟩ := z; exact ⟨z0, z1, zP, va_K.moved (u := U) (U := U.calling g mk a) (Vm.Alike.refl U.vm) zK, hN.2 U g mk a zN⟩, fun U hU hW => ⟨rfl, by rw [hU], by rw [hU]; exact hPq, va_K.moved hW.alike hK, hN.1 s U hN0 hW⟩⟩ rfl rfl hl.1 rfl (lv_room hr) hd hf) hS (fun z _ h => hFc z h) hFc ?_
  intro u t H1 locs1 ht hvm hw hB hz1 hk1 hS1
  obtain ⟨hP1, hD1⟩ := hB
  rw [ht] at hP1
  obtain ⟨hP2, hD2⟩ := mk_join hP hD hS hA hk1 hP1 hD1
  exact k u hw H1 locs1 ls hP2 hD2 hS1 hl
theorem e_ctorN {X : Bv} {cc : ByteArray} {own : String} {rm : Room} {nL1 pc cs sl : Nat} {lv : List (Nat × Value)} {sk : List Value} {ws : va_W} (C : Bx X cc own rm nL1) {y : MethodName} {bytes : ByteArray} {maxL ix : Nat} {rm2 : Room} {as : List Value} {q : Nat} {e0 : va_E} {B : (Nat → Nat) → va_W} {N : State → Prop} {sk0 : List Value} (hM : CtI X.2.1 (bdOf X) (biOf X) N y bytes maxL rm2 q as e0 B) (hN : NS N) (hN0 : N X.2.2.2.2.1) {host : String} (hlk : va_Nw (.methodLinkNest own ix y host) X.2.2.2.2.1) (hco : Cond.code y bytes maxL none ∈ lw_tg) (hini : Cond.initialized y.cls ∈ lw_tg) (him : Cond.instanceMethod y ∈ lw_tg) (hy1 : y.name = "<init>") (hy : y.cls ≠ "java/lang/invoke/MethodHandle" ∧ y.cls ≠ "java/lang/invoke/VarHandle" ∧ (parseMethodDescriptor y.desc).map (fun d => d.parameters.length) = some as.length) (hz : rm2.frames + 1 ≤ rm.frames ∧ 8 + (maxL + 11) + rm2.locals ≤ rm.locals) (hf : cs + rm2.cells ≤ rm.cells ∧ sl + rm2.slots ≤ rm.slots) (hr : (sk.map fun v => v.category).sum ≤ 8) (hsk : as.reverse ++ .ref q :: sk = sk0) (hd : decode cc pc = .ok (.invokespecial ix, 3)) (k : ∀ a : Nat → Nat, a 0 = q → Bt X (pc + 3) lv sk (ws ++ B a) (cs + rm2.cells) (sl + rm2.slots)) : Bt X pc lv sk0 (ws ++ [(q, e0)]) cs sl := by
  obtain ⟨p, l, e, R, s, m, args, below, meth, c, Q, D, I, A, H0, nL⟩ := X
  obtain ⟨⟨hx, hb, hml, hown, hts⟩, hK, hR, hnL, hA, hin⟩ := C
  subst hR; subst hsk
  intro H locs ls hP hD hS hl
  have hlast : (ws ++ [(q, e0)])[ws.length]? = some (q, e0) := by simp
  have hPq : va_P D vwCl [(q, e0)] H := fun k z hk => by
    have : k = 0 := by
      have := (List.getElem?_eq_some_iff.mp hk).1
      simp at this; exact this
    subst this
    cases hk
    exact hP _ _ hlast
  have hFc : ∀ z, va_A [(q, e0)] H.size z → A z := fun z hz => by
    rcases hz with ⟨i, e, hi⟩ | hz
    · have : i = 0 := by
        have := (List.getElem?_eq_some_iff.mp hi).1
        simp at this; exact this
      subst this
      have hz : q = z := by simp at hi; exact hi.1
      subst hz
      exact hD.2 _ _ hlast
    · exact hA _ (Nat.le_trans hS.1 hz)
  refine va_callv (va_runIN (b := q) (As := as) (rest := sk) ⟨hx, hb, hml, hown, hts⟩ (hM H.size) ⟨va_cnB as.length hts (gd_code hco) rfl rfl rfl hlk (hts _ hini) hy hz, hy1, hts _ him⟩ ⟨fun a U g mk z => by obtain ⟨z0, z1, zP, zK, zN⟩ := z; exact ⟨z0, z1, zP, va_K.moved (u := U) (U := U.calling g mk a) (Vm.Alike.refl U.vm) zK, hN.2 U g mk a zN⟩, fun U hU hW => ⟨rfl, by rw [hU], by rw [hU]; exact hPq, va_K.moved hW.alike hK, hN.1 s U hN0 hW⟩⟩ rfl rfl hl.1 rfl (lv_room hr) hd hf) hS (fun z _ h => hFc z h) hFc ?_
  intro u t H1 locs1 ht hvm hw hB hz1 hk1 hS1
  obtain ⟨hP1, hD1⟩ := hB
  rw [ht] at hP1
  obtain ⟨hP2, hD2⟩ := mk_join hP hD hS hA hk1 hP1 hD1
  exact k u hw H1 locs1 ls hP2 hD2 hS1 hl
def Rmk (X : Bv) (cc : ByteArray) (h0 : Nat) (B : (Nat → Nat) → va_W) (cs sl : Nat) : Prop := ∀ (pc : Nat) (lv : List (Nat × Value)) (a : Nat → Nat), a 0 = h0 → decode cc pc = .ok (.return_, 1) → Bt X pc lv [] (B a) cs sl
theorem ct_of {l : Launch} {D : va_G} {I : ClassId × ClassId × ClassId × ClassId} {N : State → Prop} {y : MethodName} {cc : ByteArray} {nL : Nat} {rm : Room} {h0 : Nat} {as : List Value} {e0 : va_E} {B : (Nat → Nat) → va_W} (hy : plainName y.cls = true) (hy1 : y.name = "<init>") (hla : (lg_sl (.ref h0 :: as)).length ≤ nL)
    (body : ∀ (p : Program) (e : Env) (s : State) (m : MethodId) (args : Array Value) (below : List Frame) (meth : Method) (c : Code) (Q : State → Prop) (A : Nat → Prop) (X : Bv), X = (p, l, e, rm, s, m, args, below, meth, c, Q, D, I, A, s.heap, nL) → Bx X cc y.cls rm nL → N s → Rmk X cc h0 B rm.cells rm.slots → Bt X 0 (lv_args 0 (.ref h0 :: as)) [] [(h0, e0)] 0 0) : CtI l D I N y cc nL rm h0 as e0 B := by
  intro sz
  refine Met.ofW (cc := cc) (maxL := nL) (ret := none) hy rfl ?_
  intro p e s m args below meth c s₁ Bd hml hv
  obtain ⟨rfl, hsz, hP, hK, hN⟩ := hv
  have hx := Bd.exec
  have hb := Bd.bytes
  have hr := Bd.returns
  have hlocks := Bd.notSynchronized
  have hts := atoms_spec (ws := Cond.code y cc nL none :: lw_tg) Bd.pre
  have hown : s.vm.findClass y.cls = some m.cls := findClass_of_methodNamed Bd.named
  have hin : meth.name = "<init>" := (name_of_methodNamed Bd.named Bd.method).1.trans hy1
  have hl := lv_entry (.ref h0 :: as) (n := nL) hla
  rw [lg_entry_eq]
  generalize (lg_sl (.ref h0 :: as) ++ List.replicate (nL - (lg_sl (.ref h0 :: as)).length) Slot.unset).toArray = ls at hl ⊢
  subst hsz
  refine body p e s m _ below meth c _ (va_A [(h0, e0)] s.heap.size) _ rfl ⟨⟨hx, hb, hml, hown, fun w h => hts w (List.mem_cons_of_mem _ h)⟩, hK, rfl, rfl, fun q h => Or.inr h, hin⟩ hN ?_ s.heap [] ls hP ?_ va_S.rf hl
  · intro pc lv a ha hd H locs ls hP1 hD1 hS1 _
    exact W.vret hx hb hr (fun t ht hW => ⟨⟨a, rfl, ha, by rw [ht]; exact hP1, hD1⟩, hS1.F ht⟩) hS1.2.2 hd
  · refine ⟨fun i j a b hi hj e => ?_, fun k z hk => Or.inl ⟨k, z.2, hk⟩⟩
    have h1 := (List.getElem?_eq_some_iff.mp hi).1
    have h2 := (List.getElem?_eq_some_iff.mp hj).1
    simp at h1 h2
    omega
