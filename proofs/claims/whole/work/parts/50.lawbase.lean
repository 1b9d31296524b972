/-! ===== THE LAW: its judgement over both pictures ===== -/
def R_law : String := "LayeredMulticastLaw"
def lw_P (b : Addr) (xs : List Int32) (args : Array Value) (s : State) : Prop := args = #[.ref b] ∧ s.IntsAt b xs ∧ xs.length ≤ 3072 ∧ (Jvm.Cond.and given_1 narrow_1).before args s = true
def lw_Q (_ : Array Value) (s : State) (o : Outcome) (t : State) : Prop := o = .returned (some (.int 1)) ∧ Framed s o t [] 600000 7302250
def lw_Z (below : List Frame) (a : Array Value) (s : State) : State → Prop := fun t => ∃ o, t.status = .running ∧ Ended t below o ∧ lw_Q a s o t
/-- the law's own end, with 1 on the stack, nothing written that was there before, its room as the claim has it -/
theorem lw_ret {p : Program} {l : Launch} {e : Env} {s : State} {m : MethodId} {below : List Frame} {meth : Method} {c : Code} {b : Nat} (hx : p.tables.exec = Jvm.exec) (hb : c.code = code) (hr : meth.sig.returnType = ret) (hlocks : meth.locks = false) {pc : Nat} {H : Heap} {ls : Array Slot} (hdg : decode code pc = .ok (.ireturn, 1)) : W p l e room_1 s m #[Value.ref b] below meth c H [] 600000 7302250 (lw_Z below #[Value.ref b] s) (F0 m pc ls [.int 1]) := by
  intro T hT X
  obtain ⟨fs, hret, hrun, hended, hW, hframe⟩ := X.leave (v := some (.int 1)) (hlocks := hlocks) (fun h => by rw [hr] at h; cases h)
  have hmeth' : T.vm.method? m = some meth := X.method'
  refine ⟨T.setFrames fs, ?_, .returned (some (.int 1)), hrun, hended, rfl, ⟨_, rfl⟩, hW, hframe⟩
  jvm_step X.here [X.here.top, hx, hb, hdg, hmeth', hr, ret, narrow_b1]
  (try refine ⟨rfl, ?_⟩); (try refine ⟨rfl, ?_⟩)
  first | (intro acts; rw [hret _ acts rfl rfl rfl]) | rw [hret _ _ rfl rfl rfl]
  exact Steps.refl _
/-- what holds at the law's entry: the machine, the code, the tables' words (any of lw_tbl by 'hts w (by decide +kernel)'), the script of L ints xs at the cell b, what the Statement gives of the start (any of its parts by flat_of_before) -/
def lw_At (p : Program) (s : State) (m : MethodId) (meth : Method) (c : Code) (b L : Nat) (xs : Nat → Int32) : Prop :=
  p.tables.exec = Jvm.exec ∧ c.code = code ∧ meth.sig.returnType = ret ∧ c.maxLocals = 4 ∧ s.vm.findClass R_law = some m.cls ∧ (∀ w ∈ lw_tbl, w.before #[Value.ref b] s = true) ∧ va_X b L xs s s.heap ∧ b < s.heap.size ∧ meth.locks = false ∧ (Jvm.Cond.and given_1 narrow_1).before #[Value.ref b] s = true

abbrev Lv : Type := Program × Launch × Env × State × MethodId × List Frame × Method × Code × va_G × (ClassId × ClassId × ClassId × ClassId) × (Nat → Nat) × (Nat → Nat) × Nat × Nat × (Nat → Int32)
def Lt (X : Lv) (pc : Nat) (lv : List (Nat × Value)) (sk : List Value) (qk qm : St) : Prop := match X with
  | (p, l, e, s, m, below, meth, c, D, I, ad, am, b, _, _) => ∀ (H : Heap) (locs : List Loc) (ls : Array Slot), va_P D vwCl (pic 168 (shK I) ad qk) H → va_P D vwCl (pic 18 (shM I) am qm) H → va_S (fun q : Nat => s.heap.size ≤ q) s.heap H locs → lv_has ls 4 lv → W p l e room_1 s m #[Value.ref b] below meth c H locs 440 20000 (lw_Z below #[Value.ref b] s) (F0 m pc ls sk)
def Lx (X : Lv) : Prop := match X with
  | (p, _, _, s, m, _, meth, c, D, I, ad, am, b, L, xs) => CallFix p m c code 4 s #[Value.ref b] lw_tg R_law ∧ meth.sig.returnType = ret ∧ meth.locks = false ∧ va_X b L xs s s.heap ∧ b < s.heap.size ∧ va_K D vwCl (tysL I) s ∧ (Inj ad 168 ∧ ∀ k, k < 168 → s.heap.size ≤ ad k) ∧ (Inj am 18 ∧ ∀ k, k < 18 → s.heap.size ≤ am k) ∧ (∀ i j, i < 168 → j < 18 → ad i ≠ am j) ∧ ∃ sa : Nat → Nat, (∀ k, 168 ≤ k → ad k = sa k) ∧ zS sa (fun q : Nat => s.heap.size ≤ q) s
abbrev lad (X : Lv) : Nat → Nat := X.2.2.2.2.2.2.2.2.2.2.1
abbrev lam (X : Lv) : Nat → Nat := X.2.2.2.2.2.2.2.2.2.2.2.1
abbrev lb (X : Lv) : Nat := X.2.2.2.2.2.2.2.2.2.2.2.2.1
abbrev lL (X : Lv) : Nat := X.2.2.2.2.2.2.2.2.2.2.2.2.2.1
abbrev lxs (X : Lv) : Nat → Int32 := X.2.2.2.2.2.2.2.2.2.2.2.2.2.2
abbrev lD (X : Lv) : va_G := X.2.2.2.2.2.2.2.2.1
abbrev lI (X : Lv) : ClassId × ClassId × ClassId × ClassId := X.2.2.2.2.2.2.2.2.2.1
theorem l_iconst {X : Lv} {pc : Nat} {lv : List (Nat × Value)} {sk : List Value} {qk qm : St} (C : Lx X) {n0 : Int} {v : Int32} (hv : Int32.ofInt n0 = v) (hd : decode code pc = .ok (.iconst n0, 1)) (k : Lt X (pc + 1) lv (.int v :: sk) qk qm) : Lt X pc lv (sk) qk qm := by
  obtain ⟨p, l, e, s, m, below, meth, c, D, I, ad, am, b, L, xs⟩ := X
  obtain ⟨⟨hx, hb, hml, hown, hts⟩, hr, hlocks, hX, hbl, hK, ⟨hik, hdk⟩, ⟨him, hdm⟩, hdis, sa, hsa, hzs⟩ := C
  exact fun H locs ls hPk hPm hS hl => lv_iconst hx hb hd hv (k H locs ls hPk hPm hS hl)
theorem l_bipush {X : Lv} {pc : Nat} {lv : List (Nat × Value)} {sk : List Value} {qk qm : St} (C : Lx X) {n0 : Int} {v : Int32} (hv : (Int8.ofInt n0).toInt32 = v) (hd : decode code pc = .ok (.bipush n0, 2)) (k : Lt X (pc + 2) lv (.int v :: sk) qk qm) : Lt X pc lv (sk) qk qm := by
  obtain ⟨p, l, e, s, m, below, meth, c, D, I, ad, am, b, L, xs⟩ := X
  obtain ⟨⟨hx, hb, hml, hown, hts⟩, hr, hlocks, hX, hbl, hK, ⟨hik, hdk⟩, ⟨him, hdm⟩, hdis, sa, hsa, hzs⟩ := C
  exact fun H locs ls hPk hPm hS hl => lv_bipush hx hb hd hv (k H locs ls hPk hPm hS hl)
theorem l_iadd {X : Lv} {pc : Nat} {lv : List (Nat × Value)} {sk : List Value} {qk qm : St} (C : Lx X) {x y : Int32} (hd : decode code pc = .ok (.iadd, 1)) (k : Lt X (pc + 1) lv (.int (x + y) :: sk) qk qm) : Lt X pc lv (.int y :: .int x :: sk) qk qm := by
  obtain ⟨p, l, e, s, m, below, meth, c, D, I, ad, am, b, L, xs⟩ := X
  obtain ⟨⟨hx, hb, hml, hown, hts⟩, hr, hlocks, hX, hbl, hK, ⟨hik, hdk⟩, ⟨him, hdm⟩, hdis, sa, hsa, hzs⟩ := C
  exact fun H locs ls hPk hPm hS hl => lv_iadd hx hb hd  (k H locs ls hPk hPm hS hl)
theorem l_isub {X : Lv} {pc : Nat} {lv : List (Nat × Value)} {sk : List Value} {qk qm : St} (C : Lx X) {x y : Int32} (hd : decode code pc = .ok (.isub, 1)) (k : Lt X (pc + 1) lv (.int (x - y) :: sk) qk qm) : Lt X pc lv (.int y :: .int x :: sk) qk qm := by
  obtain ⟨p, l, e, s, m, below, meth, c, D, I, ad, am, b, L, xs⟩ := X
  obtain ⟨⟨hx, hb, hml, hown, hts⟩, hr, hlocks, hX, hbl, hK, ⟨hik, hdk⟩, ⟨him, hdm⟩, hdis, sa, hsa, hzs⟩ := C
  exact fun H locs ls hPk hPm hS hl => lv_isub hx hb hd  (k H locs ls hPk hPm hS hl)
theorem l_iand {X : Lv} {pc : Nat} {lv : List (Nat × Value)} {sk : List Value} {qk qm : St} (C : Lx X) {x y : Int32} (hd : decode code pc = .ok (.iand, 1)) (k : Lt X (pc + 1) lv (.int (x &&& y) :: sk) qk qm) : Lt X pc lv (.int y :: .int x :: sk) qk qm := by
  obtain ⟨p, l, e, s, m, below, meth, c, D, I, ad, am, b, L, xs⟩ := X
  obtain ⟨⟨hx, hb, hml, hown, hts⟩, hr, hlocks, hX, hbl, hK, ⟨hik, hdk⟩, ⟨him, hdm⟩, hdis, sa, hsa, hzs⟩ := C
  exact fun H locs ls hPk hPm hS hl => lv_iand hx hb hd  (k H locs ls hPk hPm hS hl)
theorem l_aload {X : Lv} {pc : Nat} {lv : List (Nat × Value)} {sk : List Value} {qk qm : St} (C : Lx X) {kk : Fin 4} {i : Nat} {x : Nat} (j : Nat) (hj : lv[j]? = some (i, .ref x)) (hi : (kk : Nat) = i) (hd : decode code pc = .ok (.aload_n kk, 1)) (k : Lt X (pc + 1) lv (.ref x :: sk) qk qm) : Lt X pc lv sk qk qm := by
  obtain ⟨p, l, e, s, m, below, meth, c, D, I, ad, am, b, L, xs⟩ := X
  obtain ⟨⟨hx, hb, hml, hown, hts⟩, hr, hlocks, hX, hbl, hK, ⟨hik, hdk⟩, ⟨him, hdm⟩, hdis, sa, hsa, hzs⟩ := C
  exact fun H locs ls hPk hPm hS hl => lv_aload_n hx hb hd hi (lv_at hl j hj) (k H locs ls hPk hPm hS hl)
theorem l_iload {X : Lv} {pc : Nat} {lv : List (Nat × Value)} {sk : List Value} {qk qm : St} (C : Lx X) {kk : Fin 4} {i : Nat} {x : Int32} (j : Nat) (hj : lv[j]? = some (i, .int x)) (hi : (kk : Nat) = i) (hd : decode code pc = .ok (.iload_n kk, 1)) (k : Lt X (pc + 1) lv (.int x :: sk) qk qm) : Lt X pc lv sk qk qm := by
  obtain ⟨p, l, e, s, m, below, meth, c, D, I, ad, am, b, L, xs⟩ := X
  obtain ⟨⟨hx, hb, hml, hown, hts⟩, hr, hlocks, hX, hbl, hK, ⟨hik, hdk⟩, ⟨him, hdm⟩, hdis, sa, hsa, hzs⟩ := C
  exact fun H locs ls hPk hPm hS hl => lv_iload_n hx hb hd hi (lv_at hl j hj) (k H locs ls hPk hPm hS hl)
theorem l_iinc {X : Lv} {pc : Nat} {lv : List (Nat × Value)} {sk : List Value} {qk qm : St} (C : Lx X) {i : Nat} {n0 : Int} {x v : Int32} (lv2 : List (Nat × Value)) (j : Nat) (hj : lv[j]? = some (i, .int x)) (hv : x + Int32.ofInt n0 = v) (hn : i < 4) (hl2 : (i, Value.int v) :: lv.filter (fun q => !(q.1 == i) && !(q.1 + 1 == i && q.2.category == 2)) = lv2) (hd : decode code pc = .ok (.iinc i n0, 3)) (k : Lt X (pc + 3) lv2 sk qk qm) : Lt X pc lv sk qk qm := by
  obtain ⟨p, l, e, s, m, below, meth, c, D, I, ad, am, b, L, xs⟩ := X
  obtain ⟨⟨hx, hb, hml, hown, hts⟩, hr, hlocks, hX, hbl, hK, ⟨hik, hdk⟩, ⟨him, hdm⟩, hdis, sa, hsa, hzs⟩ := C
  exact fun H locs ls hPk hPm hS hl => lv_iinc hx hb hd hl hj hv hn hl2 (fun ls hl => k H locs ls hPk hPm hS hl)
theorem l_goto {X : Lv} {pc : Nat} {lv : List (Nat × Value)} {sk : List Value} {qk qm : St} (C : Lx X) {off : Int} (tgt : Nat) (ht : (pc : Int) + off = (tgt : Int)) (hd : decode code pc = .ok (.goto off, 3)) (k : Lt X tgt lv sk qk qm) : Lt X pc lv sk qk qm := by
  obtain ⟨p, l, e, s, m, below, meth, c, D, I, ad, am, b, L, xs⟩ := X
  obtain ⟨⟨hx, hb, hml, hown, hts⟩, hr, hlocks, hX, hbl, hK, ⟨hik, hdk⟩, ⟨him, hdm⟩, hdis, sa, hsa, hzs⟩ := C
  exact fun H locs ls hPk hPm hS hl => lv_goto hx hb hd ht (k H locs ls hPk hPm hS hl)
theorem l_icmp_eq {X : Lv} {pc : Nat} {lv : List (Nat × Value)} {sk : List Value} {qk qm : St} (C : Lx X) {x y : Int32} {off : Int} (tgt : Nat) (ht : (pc : Int) + off = (tgt : Int)) (hd : decode code pc = .ok (.if_icmp .eq off, 3)) (kt : x = y → Lt X tgt lv sk qk qm) (kf : ¬ x = y → Lt X (pc + 3) lv sk qk qm) : Lt X pc lv (.int y :: .int x :: sk) qk qm := by
  obtain ⟨p, l, e, s, m, below, meth, c, D, I, ad, am, b, L, xs⟩ := X
  obtain ⟨⟨hx, hb, hml, hown, hts⟩, hr, hlocks, hX, hbl, hK, ⟨hik, hdk⟩, ⟨him, hdm⟩, hdis, sa, hsa, hzs⟩ := C
  exact fun H locs ls hPk hPm hS hl => lv_icmp_eq hx hb hd ht (fun h => kt h H locs ls hPk hPm hS hl) (fun h => kf h H locs ls hPk hPm hS hl)
theorem l_icmp_gt {X : Lv} {pc : Nat} {lv : List (Nat × Value)} {sk : List Value} {qk qm : St} (C : Lx X) {x y : Int32} {off : Int} (tgt : Nat) (ht : (pc : Int) + off = (tgt : Int)) (hd : decode code pc = .ok (.if_icmp .gt off, 3)) (kt : y < x → Lt X tgt lv sk qk qm) (kf : ¬ y < x → Lt X (pc + 3) lv sk qk qm) : Lt X pc lv (.int y :: .int x :: sk) qk qm := by
  obtain ⟨p, l, e, s, m, below, meth, c, D, I, ad, am, b, L, xs⟩ := X
  obtain ⟨⟨hx, hb, hml, hown, hts⟩, hr, hlocks, hX, hbl, hK, ⟨hik, hdk⟩, ⟨him, hdm⟩, hdis, sa, hsa, hzs⟩ := C
  exact fun H locs ls hPk hPm hS hl => lv_icmp_gt hx hb hd ht (fun h => kt h H locs ls hPk hPm hS hl) (fun h => kf h H locs ls hPk hPm hS hl)
theorem l_if_eq {X : Lv} {pc : Nat} {lv : List (Nat × Value)} {sk : List Value} {qk qm : St} (C : Lx X) {x : Int32} {off : Int} (tgt : Nat) (ht : (pc : Int) + off = (tgt : Int)) (hd : decode code pc = .ok (.ifCond .eq off, 3)) (kt : x = 0 → Lt X tgt lv sk qk qm) (kf : ¬ x = 0 → Lt X (pc + 3) lv sk qk qm) : Lt X pc lv (.int x :: sk) qk qm := by
  obtain ⟨p, l, e, s, m, below, meth, c, D, I, ad, am, b, L, xs⟩ := X
  obtain ⟨⟨hx, hb, hml, hown, hts⟩, hr, hlocks, hX, hbl, hK, ⟨hik, hdk⟩, ⟨him, hdm⟩, hdis, sa, hsa, hzs⟩ := C
  exact fun H locs ls hPk hPm hS hl => lv_if_eq hx hb hd ht (fun h => kt h H locs ls hPk hPm hS hl) (fun h => kf h H locs ls hPk hPm hS hl)
theorem l_tabOut {X : Lv} {pc : Nat} {lv : List (Nat × Value)} {sk : List Value} {qk qm : St} (C : Lx X) {dflt lo hi : Int} {offs : Array Int} {len : Nat} {x : Int32} (tgt : Nat) (hd : decode code pc = .ok (.tableswitch dflt lo hi offs, len)) (h : x.toInt < lo ∨ hi < x.toInt) (ht : (pc : Int) + dflt = (tgt : Int)) (k : Lt X tgt lv sk qk qm) : Lt X pc lv (.int x :: sk) qk qm := by
  obtain ⟨p, l, e, s, m, below, meth, c, D, I, ad, am, b, L, xs⟩ := X
  obtain ⟨⟨hx, hb, hml, hown, hts⟩, hr, hlocks, hX, hbl, hK, ⟨hik, hdk⟩, ⟨him, hdm⟩, hdis, sa, hsa, hzs⟩ := C
  exact fun H locs ls hPk hPm hS hl => lv_tableOut hx hb hd h ht (k H locs ls hPk hPm hS hl)
theorem l_tabIn {X : Lv} {pc : Nat} {lv : List (Nat × Value)} {sk : List Value} {qk qm : St} (C : Lx X) {dflt lo hi : Int} {offs : Array Int} {len : Nat} {x : Int32} {off : Int} (tgt : Nat) (hd : decode code pc = .ok (.tableswitch dflt lo hi offs, len)) (h1 : ¬ x.toInt < lo) (h2 : ¬ hi < x.toInt) (ho : offs[(x.toInt - lo).toNat]? = some off) (ht : (pc : Int) + off = (tgt : Int)) (k : Lt X tgt lv sk qk qm) : Lt X pc lv (.int x :: sk) qk qm := by
  obtain ⟨p, l, e, s, m, below, meth, c, D, I, ad, am, b, L, xs⟩ := X
  obtain ⟨⟨hx, hb, hml, hown, hts⟩, hr, hlocks, hX, hbl, hK, ⟨hik, hdk⟩, ⟨him, hdm⟩, hdis, sa, hsa, hzs⟩ := C
  exact fun H locs ls hPk hPm hS hl => lv_tableIn hx hb hd h1 h2 ho ht (k H locs ls hPk hPm hS hl)
theorem l_sld {X : Lv} {pc : Nat} {lv : List (Nat × Value)} {sk : List Value} {qk qm : St} (C : Lx X) {i : Int32} (hi : vp_in i (lL X)) (hd : decode code pc = .ok (.iaload, 1)) (k : Lt X (pc + 1) lv (.int (lxs X i.toNatClampNeg) :: sk) qk qm) : Lt X pc lv (.int i :: .ref (lb X) :: sk) qk qm := by
  obtain ⟨p, l, e, s, m, below, meth, c, D, I, ad, am, b, L, xs⟩ := X
  obtain ⟨⟨hx, hb, hml, hown, hts⟩, hr, hlocks, hX, hbl, hK, ⟨hik, hdk⟩, ⟨him, hdm⟩, hdis, sa, hsa, hzs⟩ := C
  exact fun H locs ls hPk hPm hS hl => va_sld hx hb hX hbl (Nat.not_le.mpr hbl) hS hi hd (k H locs ls hPk hPm hS hl)
theorem l_slen {X : Lv} {pc : Nat} {lv : List (Nat × Value)} {sk : List Value} {qk qm : St} (C : Lx X) (hd : decode code pc = .ok (.arraylength, 1)) (k : Lt X (pc + 1) lv (.int (nI (lL X)) :: sk) qk qm) : Lt X pc lv (.ref (lb X) :: sk) qk qm := by
  obtain ⟨p, l, e, s, m, below, meth, c, D, I, ad, am, b, L, xs⟩ := X
  obtain ⟨⟨hx, hb, hml, hown, hts⟩, hr, hlocks, hX, hbl, hK, ⟨hik, hdk⟩, ⟨him, hdm⟩, hdis, sa, hsa, hzs⟩ := C
  exact fun H locs ls hPk hPm hS hl => va_slen hx hb hX hbl (Nat.not_le.mpr hbl) hS hd (k H locs ls hPk hPm hS hl)
theorem l_ret {X : Lv} {pc : Nat} {lv : List (Nat × Value)} {sk : List Value} {qk qm : St} (C : Lx X) (hd : decode code pc = .ok (.ireturn, 1))  : Lt X pc lv [.int 1] qk qm := by
  obtain ⟨p, l, e, s, m, below, meth, c, D, I, ad, am, b, L, xs⟩ := X
  obtain ⟨⟨hx, hb, hml, hown, hts⟩, hr, hlocks, hX, hbl, hK, ⟨hik, hdk⟩, ⟨him, hdm⟩, hdis, sa, hsa, hzs⟩ := C
  intro H locs ls hPk hPm hS hl
  refine va_forget (fun q hq => hS.2.2 q hq) ?_
  refine W.widen (k := 600000) (n := 7302250) (Nat.le_of_ble_eq_true rfl) (Nat.le_of_ble_eq_true rfl) ?_
  exact lw_ret hx hb hr hlocks hd
theorem P_keep {D : va_G} {n : Nat} {sh : Sh} {ad : Nat → Nat} {q : St} {H H1 : Heap} {A : Nat → Prop} (h : va_P D vwCl (pic n sh ad q) H) (hk : ∀ z : Nat, z < H.size → ¬ A z → H1[z]? = H[z]?) (hA : ∀ k, k < n → ¬ A (ad k)) : va_P D vwCl (pic n sh ad q) H1 := fun k z hz => by
  have := (h k z hz)
  obtain ⟨hk1, rfl⟩ := pic_some hz
  exact this.kept (hk _ this.lt (hA k hk1))
theorem l_callK {X : Lv} {pc : Nat} {lv : List (Nat × Value)} {sk : List Value} {qk qm : St} (C : Lx X) {y : MethodName} {bytes : ByteArray} {maxL ix : Nat} {rt : Option FieldType} {rm2 : Room} {as : List Value} {r : Int32} {sk0 : List Value} {q2 : St} (hM : Ctr X.2.1 (lD X) (lI X) (zK (lad X)) 168 (shK (lI X)) (lad X) y bytes maxL rt rm2 (.ref ((lad X) 0) :: as) qk (some r) q2) (hC : y.cls = RX10) (hG : GoodIn lw_tg (wsV R_law ix y.cls y (Cond.code y bytes maxL rt :: lw_tg))) (hz : rm2.cells = 0 ∧ rm2.slots = 0 ∧ rm2.frames + 1 ≤ room_1.frames ∧ 8 + (maxL + 11) + rm2.locals ≤ room_1.locals) (hy : (parseMethodDescriptor y.desc).map (fun d => d.parameters.length) = some as.length) (hr8 : (sk.map fun v => v.category).sum ≤ 8) (hsk : as.reverse ++ .ref ((lad X) 0) :: sk = sk0) (hd : decode code pc = .ok (.invokevirtual ix, 3)) (k : Lt X (pc + 3) lv (.int r :: sk) q2 qm) : Lt X pc lv sk0 qk qm := by
  obtain ⟨p, l, e, s, m, below, meth, c, D, I, ad, am, b, L, xs⟩ := X
  obtain ⟨⟨hx, hb, hml, hown, hts⟩, hr, hlocks, hX, hbl, hK, ⟨hik, hdk⟩, ⟨him, hdm⟩, hdis, sa, hsa, hzs⟩ := C
  subst hsk
  intro H locs ls hPk hPm hS hl
  have hget : (pic 168 (shK I) ad qk)[0]? = some (ad 0, shK I ad 0 (qk.1 0) qk.2) := pic_get (by omega)
  refine va_calli (mc := 0) (ms := 0) (va_runV (C := y.cls) (b := ad 0) (As := as) (rest := sk) ⟨hx, hb, hml, hown, hts⟩ (show Met l y _ rm2 _ _ 0 0 _ from hM) (cwV as.length hts hG rfl hz.1 hz.2.1 ⟨rfl, by rw [hC]; decide, by rw [hC]; decide, hy⟩ hz.2.2) ⟨fun a U g mk z => by obtain ⟨z0, ⟨z1, z2, z3⟩, zP, zK⟩ := z; exact ⟨z0, ⟨z1, z2, z2.2 U g mk a z3⟩, zP, va_K.moved (u := U) (U := U.calling g mk a) (Vm.Alike.refl U.vm) zK⟩, (by rw [hC]; exact va_recv hK hPk rfl hget), fun U hU hW => ⟨rfl, ⟨hik, zK_ok, zS_zK (zS_narrow (zS_ok.1 s U hzs hW (by rw [hU]; exact hS.2.1)) (fun z ⟨i, hi, e⟩ => e ▸ hdk i hi)) hsa⟩, by rw [hU]; exact hPk, va_K.moved hW.alike hK⟩⟩ rfl rfl hl.1 rfl (lv_room hr8) hd ⟨Nat.le_of_ble_eq_true rfl, Nat.le_of_ble_eq_true rfl⟩) hS (fun z _ ⟨i, hi, e⟩ => e ▸ hdk i hi) (fun z ⟨i, hi, e⟩ => e ▸ hdk i hi) ?_
  intro r1 u t H1 locs1 ht hvm hw hB hz1 hk1 hS1
  have hw : r1 = r := hw
  have hB : va_P D vwCl (pic 168 (shK I) ad q2) t.heap := hB
  subst hw
  rw [ht] at hB
  have hO := P_keep hPm hk1 (fun i hi ⟨j, hj, e⟩ => hdis j i hj hi e)
  exact k H1 locs1 ls hB hO hS1 hl
theorem l_callM {X : Lv} {pc : Nat} {lv : List (Nat × Value)} {sk : List Value} {qk qm : St} (C : Lx X) {y : MethodName} {bytes : ByteArray} {maxL ix : Nat} {rt : Option FieldType} {rm2 : Room} {as : List Value} {r : Int32} {sk0 : List Value} {q2 : St} (hM : Ctr X.2.1 (lD X) (lI X) zT 18 (shM (lI X)) (lam X) y bytes maxL rt rm2 (.ref ((lam X) 0) :: as) qm (some r) q2) (hC : y.cls = RX11) (hG : GoodIn lw_tg (wsV R_law ix y.cls y (Cond.code y bytes maxL rt :: lw_tg))) (hz : rm2.cells = 0 ∧ rm2.slots = 0 ∧ rm2.frames + 1 ≤ room_1.frames ∧ 8 + (maxL + 11) + rm2.locals ≤ room_1.locals) (hy : (parseMethodDescriptor y.desc).map (fun d => d.parameters.length) = some as.length) (hr8 : (sk.map fun v => v.category).sum ≤ 8) (hsk : as.reverse ++ .ref ((lam X) 0) :: sk = sk0) (hd : decode code pc = .ok (.invokevirtual ix, 3)) (k : Lt X (pc + 3) lv (.int r :: sk) qk q2) : Lt X pc lv sk0 qk qm := by
  obtain ⟨p, l, e, s, m, below, meth, c, D, I, ad, am, b, L, xs⟩ := X
  obtain ⟨⟨hx, hb, hml, hown, hts⟩, hr, hlocks, hX, hbl, hK, ⟨hik, hdk⟩, ⟨him, hdm⟩, hdis, sa, hsa, hzs⟩ := C
  subst hsk
  intro H locs ls hPk hPm hS hl
  have hget : (pic 18 (shM I) am qm)[0]? = some (am 0, shM I am 0 (qm.1 0) qm.2) := pic_get (by omega)
  refine va_calli (mc := 0) (ms := 0) (va_runV (C := y.cls) (b := am 0) (As := as) (rest := sk) ⟨hx, hb, hml, hown, hts⟩ (show Met l y _ rm2 _ _ 0 0 _ from hM) (cwV as.length hts hG rfl hz.1 hz.2.1 ⟨rfl, by rw [hC]; decide, by rw [hC]; decide, hy⟩ hz.2.2) ⟨fun a U g mk z => by obtain ⟨z0, ⟨z1, z2, z3⟩, zP, zK⟩ := z; exact ⟨z0, ⟨z1, z2, z2.2 U g mk a z3⟩, zP, va_K.moved (u := U) (U := U.calling g mk a) (Vm.Alike.refl U.vm) zK⟩, (by rw [hC]; exact va_recv hK hPm rfl hget), fun U hU hW => ⟨rfl, ⟨him, zT_ok, trivial⟩, by rw [hU]; exact hPm, va_K.moved hW.alike hK⟩⟩ rfl rfl hl.1 rfl (lv_room hr8) hd ⟨Nat.le_of_ble_eq_true rfl, Nat.le_of_ble_eq_true rfl⟩) hS (fun z _ ⟨i, hi, e⟩ => e ▸ hdm i hi) (fun z ⟨i, hi, e⟩ => e ▸ hdm i hi) ?_
  intro r1 u t H1 locs1 ht hvm hw hB hz1 hk1 hS1
  have hw : r1 = r := hw
  have hB : va_P D vwCl (pic 18 (shM I) am q2) t.heap := hB
  subst hw
  rw [ht] at hB
  have hO := P_keep hPk hk1 (fun i hi ⟨j, hj, e⟩ => hdis i j hi hj e.symm)
  exact k H1 locs1 ls hO hB hS1 hl
