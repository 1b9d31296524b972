/-! ===== ROWS over At ===== -/
theorem ifp {c : Prop} [Decidable c] {α : Type} {a b z : α} (hc : c) (h : (if c then a else b) = z) : a = z := by rw [if_pos hc] at h; exact h
theorem ifn {c : Prop} [Decidable c] {α : Type} {a b z : α} (hc : ¬ c) (h : (if c then a else b) = z) : b = z := by rw [if_neg hc] at h; exact h
def rd (len : Nat) (q : St) (k : Nat) (i : Int32) : Option Int32 := if i < 0 ∨ len ≤ i.toNatClampNeg then none else some (gt q k i.toNatClampNeg)
def wr (len : Nat) (q : St) (k : Nat) (i v : Int32) : Option St := if i < 0 ∨ len ≤ i.toNatClampNeg then none else some (st q k i.toNatClampNeg v)
def b1 {α β : Type} (a : Option α) (f : α → Option β) : Option β := match a with | some x => f x | none => none
def b2 {α β γ : Type} (a : Option (α × β)) (f : α → β → Option γ) : Option γ := match a with | some (x, y) => f x y | none => none
theorem b1s {α β : Type} {a : Option α} {f : α → Option β} {z : β} (h : b1 a f = some z) : ∃ x, a = some x ∧ f x = some z := by
  cases a with
  | none => cases h
  | some x => exact ⟨x, rfl, h⟩
theorem b2s {α β γ : Type} {a : Option (α × β)} {f : α → β → Option γ} {z : γ} (h : b2 a f = some z) : ∃ x y, a = some (x, y) ∧ f x y = some z := by
  cases a with
  | none => cases h
  | some x => obtain ⟨x, y⟩ := x; exact ⟨x, y, rfl, h⟩
def dv {β : Type} (y : Int32) (f : Option β) : Option β := if y = 0 then none else f
theorem dvs {β : Type} {y : Int32} {f : Option β} {z : β} (h : dv y f = some z) : ¬ y = 0 ∧ f = some z := by
  unfold dv at h
  split at h
  · cases h
  · rename_i hn; exact ⟨hn, h⟩
theorem rd_in {len : Nat} {q : St} {k : Nat} {i x : Int32} (h : rd len q k i = some x) : vp_in i len ∧ x = gt q k i.toNatClampNeg := by
  unfold rd at h
  split at h
  · cases h
  · rename_i hn
    exact ⟨hn, (Option.some.inj h).symm⟩
theorem wr_in {len : Nat} {q q2 : St} {k : Nat} {i v : Int32} (h : wr len q k i v = some q2) : vp_in i len ∧ q2 = st q k i.toNatClampNeg v := by
  unfold wr at h
  split at h
  · cases h
  · rename_i hn
    exact ⟨hn, (Option.some.inj h).symm⟩
def lt_ {α β : Type} (a : α) (f : α → β) : β := f a
theorem lts {α β : Type} {a : α} {f : α → β} {z : β} (h : lt_ a f = z) : ∃ x, x = a ∧ f x = z := ⟨a, rfl, h⟩
def bz {β : Type} (r : Int32) (x : Option β) : Option β := if r = 0 ∨ r = 1 then x else none
theorem bzs {β : Type} {r : Int32} {x : Option β} {z : β} (h : bz r x = some z) : narrow .boolean (.int r) = .int r ∧ x = some z := by
  unfold bz at h
  split at h
  · rename_i hn
    refine ⟨?_, h⟩
    rcases hn with rfl | rfl <;> rfl
  · cases h
theorem tsn {x y : Int32} {k : Int} (hy : y.toInt = k) (h : ¬ x = y) : ¬ x.toInt = k := fun e => h (Int32.toInt_inj.mp (e.trans hy.symm))
theorem a_iconst {X : Cv} {cc : ByteArray} {own : String} {rm : Room} {nL1 : Nat} {pc : Nat} {lv : List (Nat × Value)} {sk : List Value} {q : St} (C : Cx X cc own rm nL1) {n0 : Int} {v : Int32} (hv : Int32.ofInt n0 = v) (hd : decode cc pc = .ok (.iconst n0, 1)) (k : At X (pc + 1) lv (.int v :: sk) q) : At X pc lv (sk) q := by
  obtain ⟨p, l, e, R, s, m, args, below, meth, c, Q, D, I, n, sh, ad, H0, nL, Z⟩ := X
  obtain ⟨⟨hx, hb, hml, hown, hts⟩, hK, hinj, hR, hnL, hH0, hZS, hZ⟩ := C
  exact fun H locs ls w hl => lv_iconst hx hb hd hv (k H locs ls w hl)
theorem a_bipush {X : Cv} {cc : ByteArray} {own : String} {rm : Room} {nL1 : Nat} {pc : Nat} {lv : List (Nat × Value)} {sk : List Value} {q : St} (C : Cx X cc own rm nL1) {n0 : Int} {v : Int32} (hv : (Int8.ofInt n0).toInt32 = v) (hd : decode cc pc = .ok (.bipush n0, 2)) (k : At X (pc + 2) lv (.int v :: sk) q) : At X pc lv (sk) q := by
  obtain ⟨p, l, e, R, s, m, args, below, meth, c, Q, D, I, n, sh, ad, H0, nL, Z⟩ := X
  obtain ⟨⟨hx, hb, hml, hown, hts⟩, hK, hinj, hR, hnL, hH0, hZS, hZ⟩ := C
  exact fun H locs ls w hl => lv_bipush hx hb hd hv (k H locs ls w hl)
theorem a_sipush {X : Cv} {cc : ByteArray} {own : String} {rm : Room} {nL1 : Nat} {pc : Nat} {lv : List (Nat × Value)} {sk : List Value} {q : St} (C : Cx X cc own rm nL1) {n0 : Int} {v : Int32} (hv : (Int16.ofInt n0).toInt32 = v) (hd : decode cc pc = .ok (.sipush n0, 3)) (k : At X (pc + 3) lv (.int v :: sk) q) : At X pc lv (sk) q := by
  obtain ⟨p, l, e, R, s, m, args, below, meth, c, Q, D, I, n, sh, ad, H0, nL, Z⟩ := X
  obtain ⟨⟨hx, hb, hml, hown, hts⟩, hK, hinj, hR, hnL, hH0, hZS, hZ⟩ := C
  exact fun H locs ls w hl => lv_sipush hx hb hd hv (k H locs ls w hl)
theorem a_lconst {X : Cv} {cc : ByteArray} {own : String} {rm : Room} {nL1 : Nat} {pc : Nat} {lv : List (Nat × Value)} {sk : List Value} {q : St} (C : Cx X cc own rm nL1) {n0 : Fin 2} {v : Int64} (hv : Int64.ofNat (n0 : Nat) = v) (hd : decode cc pc = .ok (.lconst n0, 1)) (k : At X (pc + 1) lv (.long v :: sk) q) : At X pc lv (sk) q := by
  obtain ⟨p, l, e, R, s, m, args, below, meth, c, Q, D, I, n, sh, ad, H0, nL, Z⟩ := X
  obtain ⟨⟨hx, hb, hml, hown, hts⟩, hK, hinj, hR, hnL, hH0, hZS, hZ⟩ := C
  exact fun H locs ls w hl => lv_lconst hx hb hd hv (k H locs ls w hl)
theorem a_ldc {X : Cv} {cc : ByteArray} {own : String} {rm : Room} {nL1 : Nat} {pc : Nat} {lv : List (Nat × Value)} {sk : List Value} {q : St} (C : Cx X cc own rm nL1) {ix : Nat} {v : Int32} (hm : Cond.constant own ix v ∈ lw_tg) (hd : decode cc pc = .ok (.ldc ix, 2)) (k : At X (pc + 2) lv (.int v :: sk) q) : At X pc lv sk q := by
  obtain ⟨p, l, e, R, s, m, args, below, meth, c, Q, D, I, n, sh, ad, H0, nL, Z⟩ := X
  obtain ⟨⟨hx, hb, hml, hown, hts⟩, hK, hinj, hR, hnL, hH0, hZS, hZ⟩ := C
  exact fun H locs ls w hl => lv_ldc hx hb hown (hts _ hm) hd (k H locs ls w hl)
theorem a_ldc2 {X : Cv} {cc : ByteArray} {own : String} {rm : Room} {nL1 : Nat} {pc : Nat} {lv : List (Nat × Value)} {sk : List Value} {q : St} (C : Cx X cc own rm nL1) {ix : Nat} {v : Int64} (hm : Cond.constantLong own ix v ∈ lw_tg) (hd : decode cc pc = .ok (.ldc2_w ix, 3)) (k : At X (pc + 3) lv (.long v :: sk) q) : At X pc lv sk q := by
  obtain ⟨p, l, e, R, s, m, args, below, meth, c, Q, D, I, n, sh, ad, H0, nL, Z⟩ := X
  obtain ⟨⟨hx, hb, hml, hown, hts⟩, hK, hinj, hR, hnL, hH0, hZS, hZ⟩ := C
  exact fun H locs ls w hl => lv_ldc2 hx hb hown (hts _ hm) hd (k H locs ls w hl)
theorem a_iload_n {X : Cv} {cc : ByteArray} {own : String} {rm : Room} {nL1 : Nat} {pc : Nat} {lv : List (Nat × Value)} {sk : List Value} {q : St} (C : Cx X cc own rm nL1) {kk : Fin 4} {i : Nat} {x : Int32} (j : Nat) (hj : lv[j]? = some (i, .int x)) (hi : (kk : Nat) = i) (hd : decode cc pc = .ok (.iload_n kk, 1)) (k : At X (pc + 1) lv (.int x :: sk) q) : At X pc lv sk q := by
  obtain ⟨p, l, e, R, s, m, args, below, meth, c, Q, D, I, n, sh, ad, H0, nL, Z⟩ := X
  obtain ⟨⟨hx, hb, hml, hown, hts⟩, hK, hinj, hR, hnL, hH0, hZS, hZ⟩ := C
  exact fun H locs ls w hl => lv_iload_n hx hb hd hi (lv_at hl j hj) (k H locs ls w hl)
theorem a_aload_n {X : Cv} {cc : ByteArray} {own : String} {rm : Room} {nL1 : Nat} {pc : Nat} {lv : List (Nat × Value)} {sk : List Value} {q : St} (C : Cx X cc own rm nL1) {kk : Fin 4} {i : Nat} {x : Nat} (j : Nat) (hj : lv[j]? = some (i, .ref x)) (hi : (kk : Nat) = i) (hd : decode cc pc = .ok (.aload_n kk, 1)) (k : At X (pc + 1) lv (.ref x :: sk) q) : At X pc lv sk q := by
  obtain ⟨p, l, e, R, s, m, args, below, meth, c, Q, D, I, n, sh, ad, H0, nL, Z⟩ := X
  obtain ⟨⟨hx, hb, hml, hown, hts⟩, hK, hinj, hR, hnL, hH0, hZS, hZ⟩ := C
  exact fun H locs ls w hl => lv_aload_n hx hb hd hi (lv_at hl j hj) (k H locs ls w hl)
theorem a_lload_n {X : Cv} {cc : ByteArray} {own : String} {rm : Room} {nL1 : Nat} {pc : Nat} {lv : List (Nat × Value)} {sk : List Value} {q : St} (C : Cx X cc own rm nL1) {kk : Fin 4} {i : Nat} {x : Int64} (j : Nat) (hj : lv[j]? = some (i, .long x)) (hi : (kk : Nat) = i) (hd : decode cc pc = .ok (.lload_n kk, 1)) (k : At X (pc + 1) lv (.long x :: sk) q) : At X pc lv sk q := by
  obtain ⟨p, l, e, R, s, m, args, below, meth, c, Q, D, I, n, sh, ad, H0, nL, Z⟩ := X
  obtain ⟨⟨hx, hb, hml, hown, hts⟩, hK, hinj, hR, hnL, hH0, hZS, hZ⟩ := C
  exact fun H locs ls w hl => lv_lload_n hx hb hd hi (lv_at hl j hj) (k H locs ls w hl)
theorem a_iload {X : Cv} {cc : ByteArray} {own : String} {rm : Room} {nL1 : Nat} {pc : Nat} {lv : List (Nat × Value)} {sk : List Value} {q : St} (C : Cx X cc own rm nL1) {i : Nat} {x : Int32} (j : Nat) (hj : lv[j]? = some (i, .int x)) (hd : decode cc pc = .ok (.iload i, 2)) (k : At X (pc + 2) lv (.int x :: sk) q) : At X pc lv sk q := by
  obtain ⟨p, l, e, R, s, m, args, below, meth, c, Q, D, I, n, sh, ad, H0, nL, Z⟩ := X
  obtain ⟨⟨hx, hb, hml, hown, hts⟩, hK, hinj, hR, hnL, hH0, hZS, hZ⟩ := C
  exact fun H locs ls w hl => lv_iload hx hb hd (lv_at hl j hj) (k H locs ls w hl)
theorem a_aload {X : Cv} {cc : ByteArray} {own : String} {rm : Room} {nL1 : Nat} {pc : Nat} {lv : List (Nat × Value)} {sk : List Value} {q : St} (C : Cx X cc own rm nL1) {i : Nat} {x : Nat} (j : Nat) (hj : lv[j]? = some (i, .ref x)) (hd : decode cc pc = .ok (.aload i, 2)) (k : At X (pc + 2) lv (.ref x :: sk) q) : At X pc lv sk q := by
  obtain ⟨p, l, e, R, s, m, args, below, meth, c, Q, D, I, n, sh, ad, H0, nL, Z⟩ := X
  obtain ⟨⟨hx, hb, hml, hown, hts⟩, hK, hinj, hR, hnL, hH0, hZS, hZ⟩ := C
  exact fun H locs ls w hl => lv_aload hx hb hd (lv_at hl j hj) (k H locs ls w hl)
theorem a_lload {X : Cv} {cc : ByteArray} {own : String} {rm : Room} {nL1 : Nat} {pc : Nat} {lv : List (Nat × Value)} {sk : List Value} {q : St} (C : Cx X cc own rm nL1) {i : Nat} {x : Int64} (j : Nat) (hj : lv[j]? = some (i, .long x)) (hd : decode cc pc = .ok (.lload i, 2)) (k : At X (pc + 2) lv (.long x :: sk) q) : At X pc lv sk q := by
  obtain ⟨p, l, e, R, s, m, args, below, meth, c, Q, D, I, n, sh, ad, H0, nL, Z⟩ := X
  obtain ⟨⟨hx, hb, hml, hown, hts⟩, hK, hinj, hR, hnL, hH0, hZS, hZ⟩ := C
  exact fun H locs ls w hl => lv_lload hx hb hd (lv_at hl j hj) (k H locs ls w hl)
theorem a_istore_n {X : Cv} {cc : ByteArray} {own : String} {rm : Room} {nL1 : Nat} {pc : Nat} {lv : List (Nat × Value)} {sk : List Value} {q : St} (C : Cx X cc own rm nL1) {kk : Fin 4} {i : Nat} {x : Int32} (lv2 : List (Nat × Value)) (hi : (kk : Nat) = i) (hn : i < nL1) (hl2 : (i, Value.int x) :: lv.filter (fun q => !(q.1 == i) && !(q.1 + 1 == i && q.2.category == 2)) = lv2) (hd : decode cc pc = .ok (.istore_n kk, 1)) (k : At X (pc + 1) lv2 sk q) : At X pc lv (.int x :: sk) q := by
  obtain ⟨p, l, e, R, s, m, args, below, meth, c, Q, D, I, n, sh, ad, H0, nL, Z⟩ := X
  obtain ⟨⟨hx, hb, hml, hown, hts⟩, hK, hinj, hR, hnL, hH0, hZS, hZ⟩ := C
  subst hnL
  exact fun H locs ls w hl => lv_istore_n hx hb hd hi hl hn hl2 (fun ls hl => k H locs ls w hl)
theorem a_istore {X : Cv} {cc : ByteArray} {own : String} {rm : Room} {nL1 : Nat} {pc : Nat} {lv : List (Nat × Value)} {sk : List Value} {q : St} (C : Cx X cc own rm nL1) {i : Nat} {x : Int32} (lv2 : List (Nat × Value)) (hn : i < nL1) (hl2 : (i, Value.int x) :: lv.filter (fun q => !(q.1 == i) && !(q.1 + 1 == i && q.2.category == 2)) = lv2) (hd : decode cc pc = .ok (.istore i, 2)) (k : At X (pc + 2) lv2 sk q) : At X pc lv (.int x :: sk) q := by
  obtain ⟨p, l, e, R, s, m, args, below, meth, c, Q, D, I, n, sh, ad, H0, nL, Z⟩ := X
  obtain ⟨⟨hx, hb, hml, hown, hts⟩, hK, hinj, hR, hnL, hH0, hZS, hZ⟩ := C
  subst hnL
  exact fun H locs ls w hl => lv_istore hx hb hd hl hn hl2 (fun ls hl => k H locs ls w hl)
theorem a_iinc {X : Cv} {cc : ByteArray} {own : String} {rm : Room} {nL1 : Nat} {pc : Nat} {lv : List (Nat × Value)} {sk : List Value} {q : St} (C : Cx X cc own rm nL1) {i : Nat} {n0 : Int} {x v : Int32} (lv2 : List (Nat × Value)) (j : Nat) (hj : lv[j]? = some (i, .int x)) (hv : x + Int32.ofInt n0 = v) (hn : i < nL1) (hl2 : (i, Value.int v) :: lv.filter (fun q => !(q.1 == i) && !(q.1 + 1 == i && q.2.category == 2)) = lv2) (hd : decode cc pc = .ok (.iinc i n0, 3)) (k : At X (pc + 3) lv2 sk q) : At X pc lv sk q := by
  obtain ⟨p, l, e, R, s, m, args, below, meth, c, Q, D, I, n, sh, ad, H0, nL, Z⟩ := X
  obtain ⟨⟨hx, hb, hml, hown, hts⟩, hK, hinj, hR, hnL, hH0, hZS, hZ⟩ := C
  subst hnL
  exact fun H locs ls w hl => lv_iinc hx hb hd hl hj hv hn hl2 (fun ls hl => k H locs ls w hl)
theorem a_iadd {X : Cv} {cc : ByteArray} {own : String} {rm : Room} {nL1 : Nat} {pc : Nat} {lv : List (Nat × Value)} {sk : List Value} {q : St} (C : Cx X cc own rm nL1) {x y : Int32} (hd : decode cc pc = .ok (.iadd, 1)) (k : At X (pc + 1) lv (.int (x + y) :: sk) q) : At X pc lv (.int y :: .int x :: sk) q := by
  obtain ⟨p, l, e, R, s, m, args, below, meth, c, Q, D, I, n, sh, ad, H0, nL, Z⟩ := X
  obtain ⟨⟨hx, hb, hml, hown, hts⟩, hK, hinj, hR, hnL, hH0, hZS, hZ⟩ := C
  exact fun H locs ls w hl => lv_iadd hx hb hd  (k H locs ls w hl)
theorem a_isub {X : Cv} {cc : ByteArray} {own : String} {rm : Room} {nL1 : Nat} {pc : Nat} {lv : List (Nat × Value)} {sk : List Value} {q : St} (C : Cx X cc own rm nL1) {x y : Int32} (hd : decode cc pc = .ok (.isub, 1)) (k : At X (pc + 1) lv (.int (x - y) :: sk) q) : At X pc lv (.int y :: .int x :: sk) q := by
  obtain ⟨p, l, e, R, s, m, args, below, meth, c, Q, D, I, n, sh, ad, H0, nL, Z⟩ := X
  obtain ⟨⟨hx, hb, hml, hown, hts⟩, hK, hinj, hR, hnL, hH0, hZS, hZ⟩ := C
  exact fun H locs ls w hl => lv_isub hx hb hd  (k H locs ls w hl)
theorem a_imul {X : Cv} {cc : ByteArray} {own : String} {rm : Room} {nL1 : Nat} {pc : Nat} {lv : List (Nat × Value)} {sk : List Value} {q : St} (C : Cx X cc own rm nL1) {x y : Int32} (hd : decode cc pc = .ok (.imul, 1)) (k : At X (pc + 1) lv (.int (x * y) :: sk) q) : At X pc lv (.int y :: .int x :: sk) q := by
  obtain ⟨p, l, e, R, s, m, args, below, meth, c, Q, D, I, n, sh, ad, H0, nL, Z⟩ := X
  obtain ⟨⟨hx, hb, hml, hown, hts⟩, hK, hinj, hR, hnL, hH0, hZS, hZ⟩ := C
  exact fun H locs ls w hl => lv_imul hx hb hd  (k H locs ls w hl)
theorem a_iand {X : Cv} {cc : ByteArray} {own : String} {rm : Room} {nL1 : Nat} {pc : Nat} {lv : List (Nat × Value)} {sk : List Value} {q : St} (C : Cx X cc own rm nL1) {x y : Int32} (hd : decode cc pc = .ok (.iand, 1)) (k : At X (pc + 1) lv (.int (x &&& y) :: sk) q) : At X pc lv (.int y :: .int x :: sk) q := by
  obtain ⟨p, l, e, R, s, m, args, below, meth, c, Q, D, I, n, sh, ad, H0, nL, Z⟩ := X
  obtain ⟨⟨hx, hb, hml, hown, hts⟩, hK, hinj, hR, hnL, hH0, hZS, hZ⟩ := C
  exact fun H locs ls w hl => lv_iand hx hb hd  (k H locs ls w hl)
theorem a_ior {X : Cv} {cc : ByteArray} {own : String} {rm : Room} {nL1 : Nat} {pc : Nat} {lv : List (Nat × Value)} {sk : List Value} {q : St} (C : Cx X cc own rm nL1) {x y : Int32} (hd : decode cc pc = .ok (.ior, 1)) (k : At X (pc + 1) lv (.int (x ||| y) :: sk) q) : At X pc lv (.int y :: .int x :: sk) q := by
  obtain ⟨p, l, e, R, s, m, args, below, meth, c, Q, D, I, n, sh, ad, H0, nL, Z⟩ := X
  obtain ⟨⟨hx, hb, hml, hown, hts⟩, hK, hinj, hR, hnL, hH0, hZS, hZ⟩ := C
  exact fun H locs ls w hl => lv_ior hx hb hd  (k H locs ls w hl)
theorem a_ixor {X : Cv} {cc : ByteArray} {own : String} {rm : Room} {nL1 : Nat} {pc : Nat} {lv : List (Nat × Value)} {sk : List Value} {q : St} (C : Cx X cc own rm nL1) {x y : Int32} (hd : decode cc pc = .ok (.ixor, 1)) (k : At X (pc + 1) lv (.int (x ^^^ y) :: sk) q) : At X pc lv (.int y :: .int x :: sk) q := by
  obtain ⟨p, l, e, R, s, m, args, below, meth, c, Q, D, I, n, sh, ad, H0, nL, Z⟩ := X
  obtain ⟨⟨hx, hb, hml, hown, hts⟩, hK, hinj, hR, hnL, hH0, hZS, hZ⟩ := C
  exact fun H locs ls w hl => lv_ixor hx hb hd  (k H locs ls w hl)
theorem a_ishl {X : Cv} {cc : ByteArray} {own : String} {rm : Room} {nL1 : Nat} {pc : Nat} {lv : List (Nat × Value)} {sk : List Value} {q : St} (C : Cx X cc own rm nL1) {x y : Int32} (hd : decode cc pc = .ok (.ishl, 1)) (k : At X (pc + 1) lv (.int (x <<< (y &&& 31)) :: sk) q) : At X pc lv (.int y :: .int x :: sk) q := by
  obtain ⟨p, l, e, R, s, m, args, below, meth, c, Q, D, I, n, sh, ad, H0, nL, Z⟩ := X
  obtain ⟨⟨hx, hb, hml, hown, hts⟩, hK, hinj, hR, hnL, hH0, hZS, hZ⟩ := C
  exact fun H locs ls w hl => lv_ishl hx hb hd  (k H locs ls w hl)
theorem a_ishr {X : Cv} {cc : ByteArray} {own : String} {rm : Room} {nL1 : Nat} {pc : Nat} {lv : List (Nat × Value)} {sk : List Value} {q : St} (C : Cx X cc own rm nL1) {x y : Int32} (hd : decode cc pc = .ok (.ishr, 1)) (k : At X (pc + 1) lv (.int (x >>> (y &&& 31)) :: sk) q) : At X pc lv (.int y :: .int x :: sk) q := by
  obtain ⟨p, l, e, R, s, m, args, below, meth, c, Q, D, I, n, sh, ad, H0, nL, Z⟩ := X
  obtain ⟨⟨hx, hb, hml, hown, hts⟩, hK, hinj, hR, hnL, hH0, hZS, hZ⟩ := C
  exact fun H locs ls w hl => lv_ishr hx hb hd  (k H locs ls w hl)
theorem a_idiv {X : Cv} {cc : ByteArray} {own : String} {rm : Room} {nL1 : Nat} {pc : Nat} {lv : List (Nat × Value)} {sk : List Value} {q : St} (C : Cx X cc own rm nL1) {x y : Int32} (hne : ¬ y = 0) (hd : decode cc pc = .ok (.idiv, 1)) (k : At X (pc + 1) lv (.int (x / y) :: sk) q) : At X pc lv (.int y :: .int x :: sk) q := by
  obtain ⟨p, l, e, R, s, m, args, below, meth, c, Q, D, I, n, sh, ad, H0, nL, Z⟩ := X
  obtain ⟨⟨hx, hb, hml, hown, hts⟩, hK, hinj, hR, hnL, hH0, hZS, hZ⟩ := C
  exact fun H locs ls w hl => lv_idiv hx hb hd hne (k H locs ls w hl)
theorem a_irem {X : Cv} {cc : ByteArray} {own : String} {rm : Room} {nL1 : Nat} {pc : Nat} {lv : List (Nat × Value)} {sk : List Value} {q : St} (C : Cx X cc own rm nL1) {x y : Int32} (hne : ¬ y = 0) (hd : decode cc pc = .ok (.irem, 1)) (k : At X (pc + 1) lv (.int (x - x / y * y) :: sk) q) : At X pc lv (.int y :: .int x :: sk) q := by
  obtain ⟨p, l, e, R, s, m, args, below, meth, c, Q, D, I, n, sh, ad, H0, nL, Z⟩ := X
  obtain ⟨⟨hx, hb, hml, hown, hts⟩, hK, hinj, hR, hnL, hH0, hZS, hZ⟩ := C
  exact fun H locs ls w hl => lv_irem hx hb hd hne (k H locs ls w hl)
theorem a_ladd {X : Cv} {cc : ByteArray} {own : String} {rm : Room} {nL1 : Nat} {pc : Nat} {lv : List (Nat × Value)} {sk : List Value} {q : St} (C : Cx X cc own rm nL1) {x y : Int64} (hd : decode cc pc = .ok (.ladd, 1)) (k : At X (pc + 1) lv (.long (x + y) :: sk) q) : At X pc lv (.long y :: .long x :: sk) q := by
  obtain ⟨p, l, e, R, s, m, args, below, meth, c, Q, D, I, n, sh, ad, H0, nL, Z⟩ := X
  obtain ⟨⟨hx, hb, hml, hown, hts⟩, hK, hinj, hR, hnL, hH0, hZS, hZ⟩ := C
  exact fun H locs ls w hl => lv_ladd hx hb hd  (k H locs ls w hl)
theorem a_lsub {X : Cv} {cc : ByteArray} {own : String} {rm : Room} {nL1 : Nat} {pc : Nat} {lv : List (Nat × Value)} {sk : List Value} {q : St} (C : Cx X cc own rm nL1) {x y : Int64} (hd : decode cc pc = .ok (.lsub, 1)) (k : At X (pc + 1) lv (.long (x - y) :: sk) q) : At X pc lv (.long y :: .long x :: sk) q := by
  obtain ⟨p, l, e, R, s, m, args, below, meth, c, Q, D, I, n, sh, ad, H0, nL, Z⟩ := X
  obtain ⟨⟨hx, hb, hml, hown, hts⟩, hK, hinj, hR, hnL, hH0, hZS, hZ⟩ := C
  exact fun H locs ls w hl => lv_lsub hx hb hd  (k H locs ls w hl)
theorem a_lmul {X : Cv} {cc : ByteArray} {own : String} {rm : Room} {nL1 : Nat} {pc : Nat} {lv : List (Nat × Value)} {sk : List Value} {q : St} (C : Cx X cc own rm nL1) {x y : Int64} (hd : decode cc pc = .ok (.lmul, 1)) (k : At X (pc + 1) lv (.long (x * y) :: sk) q) : At X pc lv (.long y :: .long x :: sk) q := by
  obtain ⟨p, l, e, R, s, m, args, below, meth, c, Q, D, I, n, sh, ad, H0, nL, Z⟩ := X
  obtain ⟨⟨hx, hb, hml, hown, hts⟩, hK, hinj, hR, hnL, hH0, hZS, hZ⟩ := C
  exact fun H locs ls w hl => lv_lmul hx hb hd  (k H locs ls w hl)
theorem a_lcmp {X : Cv} {cc : ByteArray} {own : String} {rm : Room} {nL1 : Nat} {pc : Nat} {lv : List (Nat × Value)} {sk : List Value} {q : St} (C : Cx X cc own rm nL1) {x y : Int64} (hd : decode cc pc = .ok (.lcmp, 1)) (k : At X (pc + 1) lv (.int (lg_cmp x y) :: sk) q) : At X pc lv (.long y :: .long x :: sk) q := by
  obtain ⟨p, l, e, R, s, m, args, below, meth, c, Q, D, I, n, sh, ad, H0, nL, Z⟩ := X
  obtain ⟨⟨hx, hb, hml, hown, hts⟩, hK, hinj, hR, hnL, hH0, hZS, hZ⟩ := C
  exact fun H locs ls w hl => W.lcmp hx hb hd (k H locs ls w hl)
theorem a_i2l {X : Cv} {cc : ByteArray} {own : String} {rm : Room} {nL1 : Nat} {pc : Nat} {lv : List (Nat × Value)} {sk : List Value} {q : St} (C : Cx X cc own rm nL1) {x : Int32} (hd : decode cc pc = .ok (.i2l, 1)) (k : At X (pc + 1) lv (.long x.toInt64 :: sk) q) : At X pc lv (.int x :: sk) q := by
  obtain ⟨p, l, e, R, s, m, args, below, meth, c, Q, D, I, n, sh, ad, H0, nL, Z⟩ := X
  obtain ⟨⟨hx, hb, hml, hown, hts⟩, hK, hinj, hR, hnL, hH0, hZS, hZ⟩ := C
  exact fun H locs ls w hl => lv_i2l hx hb hd rfl (k H locs ls w hl)
theorem a_i2b {X : Cv} {cc : ByteArray} {own : String} {rm : Room} {nL1 : Nat} {pc : Nat} {lv : List (Nat × Value)} {sk : List Value} {q : St} (C : Cx X cc own rm nL1) {x : Int32} (hd : decode cc pc = .ok (.i2b, 1)) (k : At X (pc + 1) lv (.int x.toInt8.toInt32 :: sk) q) : At X pc lv (.int x :: sk) q := by
  obtain ⟨p, l, e, R, s, m, args, below, meth, c, Q, D, I, n, sh, ad, H0, nL, Z⟩ := X
  obtain ⟨⟨hx, hb, hml, hown, hts⟩, hK, hinj, hR, hnL, hH0, hZS, hZ⟩ := C
  exact fun H locs ls w hl => lv_i2b hx hb hd rfl (k H locs ls w hl)
theorem a_iushr {X : Cv} {cc : ByteArray} {own : String} {rm : Room} {nL1 : Nat} {pc : Nat} {lv : List (Nat × Value)} {sk : List Value} {q : St} (C : Cx X cc own rm nL1) {x y : Int32} (hd : decode cc pc = .ok (.iushr, 1)) (k : At X (pc + 1) lv (.int (x.toUInt32 >>> (y.toUInt32 &&& Int32.toUInt32 31)).toInt32 :: sk) q) : At X pc lv (.int y :: .int x :: sk) q := by
  obtain ⟨p, l, e, R, s, m, args, below, meth, c, Q, D, I, n, sh, ad, H0, nL, Z⟩ := X
  obtain ⟨⟨hx, hb, hml, hown, hts⟩, hK, hinj, hR, hnL, hH0, hZS, hZ⟩ := C
  exact fun H locs ls w hl => lv_iushr hx hb hd rfl (k H locs ls w hl)
theorem a_dup {X : Cv} {cc : ByteArray} {own : String} {rm : Room} {nL1 : Nat} {pc : Nat} {lv : List (Nat × Value)} {sk : List Value} {q : St} (C : Cx X cc own rm nL1) {va : Value} (hva : va.category = 1) (hd : decode cc pc = .ok (.dup, 1)) (k : At X (pc + 1) lv (va :: va :: sk) q) : At X pc lv (va :: sk) q := by
  obtain ⟨p, l, e, R, s, m, args, below, meth, c, Q, D, I, n, sh, ad, H0, nL, Z⟩ := X
  obtain ⟨⟨hx, hb, hml, hown, hts⟩, hK, hinj, hR, hnL, hH0, hZS, hZ⟩ := C
  exact fun H locs ls w hl => lv_dup hx hb hd hva (k H locs ls w hl)
theorem a_pop {X : Cv} {cc : ByteArray} {own : String} {rm : Room} {nL1 : Nat} {pc : Nat} {lv : List (Nat × Value)} {sk : List Value} {q : St} (C : Cx X cc own rm nL1) {va : Value} (hva : va.category = 1) (hd : decode cc pc = .ok (.pop, 1)) (k : At X (pc + 1) lv (sk) q) : At X pc lv (va :: sk) q := by
  obtain ⟨p, l, e, R, s, m, args, below, meth, c, Q, D, I, n, sh, ad, H0, nL, Z⟩ := X
  obtain ⟨⟨hx, hb, hml, hown, hts⟩, hK, hinj, hR, hnL, hH0, hZS, hZ⟩ := C
  exact fun H locs ls w hl => lv_pop hx hb hd hva (k H locs ls w hl)
theorem a_dup2 {X : Cv} {cc : ByteArray} {own : String} {rm : Room} {nL1 : Nat} {pc : Nat} {lv : List (Nat × Value)} {sk : List Value} {q : St} (C : Cx X cc own rm nL1) {va vb : Value} (hva : va.category = 1) (hvb : vb.category = 1) (hd : decode cc pc = .ok (.dup2, 1)) (k : At X (pc + 1) lv (va :: vb :: va :: vb :: sk) q) : At X pc lv (va :: vb :: sk) q := by
  obtain ⟨p, l, e, R, s, m, args, below, meth, c, Q, D, I, n, sh, ad, H0, nL, Z⟩ := X
  obtain ⟨⟨hx, hb, hml, hown, hts⟩, hK, hinj, hR, hnL, hH0, hZS, hZ⟩ := C
  exact fun H locs ls w hl => lv_dup2_11 hx hb hd hva hvb (k H locs ls w hl)
theorem a_if_eq {X : Cv} {cc : ByteArray} {own : String} {rm : Room} {nL1 : Nat} {pc : Nat} {lv : List (Nat × Value)} {sk : List Value} {q : St} (C : Cx X cc own rm nL1) {x : Int32} {off : Int} (tgt : Nat) (ht : (pc : Int) + off = (tgt : Int)) (hd : decode cc pc = .ok (.ifCond .eq off, 3)) (kt : x = 0 → At X tgt lv sk q) (kf : ¬ x = 0 → At X (pc + 3) lv sk q) : At X pc lv (.int x :: sk) q := by
  obtain ⟨p, l, e, R, s, m, args, below, meth, c, Q, D, I, n, sh, ad, H0, nL, Z⟩ := X
  obtain ⟨⟨hx, hb, hml, hown, hts⟩, hK, hinj, hR, hnL, hH0, hZS, hZ⟩ := C
  exact fun H locs ls w hl => lv_if_eq hx hb hd ht (fun h => kt h H locs ls w hl) (fun h => kf h H locs ls w hl)
theorem a_if_ne {X : Cv} {cc : ByteArray} {own : String} {rm : Room} {nL1 : Nat} {pc : Nat} {lv : List (Nat × Value)} {sk : List Value} {q : St} (C : Cx X cc own rm nL1) {x : Int32} {off : Int} (tgt : Nat) (ht : (pc : Int) + off = (tgt : Int)) (hd : decode cc pc = .ok (.ifCond .ne off, 3)) (kt : ¬ x = 0 → At X tgt lv sk q) (kf : x = 0 → At X (pc + 3) lv sk q) : At X pc lv (.int x :: sk) q := by
  obtain ⟨p, l, e, R, s, m, args, below, meth, c, Q, D, I, n, sh, ad, H0, nL, Z⟩ := X
  obtain ⟨⟨hx, hb, hml, hown, hts⟩, hK, hinj, hR, hnL, hH0, hZS, hZ⟩ := C
  exact fun H locs ls w hl => lv_if_ne hx hb hd ht (fun h => kt h H locs ls w hl) (fun h => kf h H locs ls w hl)
theorem a_if_lt {X : Cv} {cc : ByteArray} {own : String} {rm : Room} {nL1 : Nat} {pc : Nat} {lv : List (Nat × Value)} {sk : List Value} {q : St} (C : Cx X cc own rm nL1) {x : Int32} {off : Int} (tgt : Nat) (ht : (pc : Int) + off = (tgt : Int)) (hd : decode cc pc = .ok (.ifCond .lt off, 3)) (kt : x < 0 → At X tgt lv sk q) (kf : ¬ x < 0 → At X (pc + 3) lv sk q) : At X pc lv (.int x :: sk) q := by
  obtain ⟨p, l, e, R, s, m, args, below, meth, c, Q, D, I, n, sh, ad, H0, nL, Z⟩ := X
  obtain ⟨⟨hx, hb, hml, hown, hts⟩, hK, hinj, hR, hnL, hH0, hZS, hZ⟩ := C
  exact fun H locs ls w hl => lv_if_lt hx hb hd ht (fun h => kt h H locs ls w hl) (fun h => kf h H locs ls w hl)
theorem a_if_ge {X : Cv} {cc : ByteArray} {own : String} {rm : Room} {nL1 : Nat} {pc : Nat} {lv : List (Nat × Value)} {sk : List Value} {q : St} (C : Cx X cc own rm nL1) {x : Int32} {off : Int} (tgt : Nat) (ht : (pc : Int) + off = (tgt : Int)) (hd : decode cc pc = .ok (.ifCond .ge off, 3)) (kt : 0 ≤ x → At X tgt lv sk q) (kf : ¬ 0 ≤ x → At X (pc + 3) lv sk q) : At X pc lv (.int x :: sk) q := by
  obtain ⟨p, l, e, R, s, m, args, below, meth, c, Q, D, I, n, sh, ad, H0, nL, Z⟩ := X
  obtain ⟨⟨hx, hb, hml, hown, hts⟩, hK, hinj, hR, hnL, hH0, hZS, hZ⟩ := C
  exact fun H locs ls w hl => lv_if_ge hx hb hd ht (fun h => kt h H locs ls w hl) (fun h => kf h H locs ls w hl)
theorem a_if_gt {X : Cv} {cc : ByteArray} {own : String} {rm : Room} {nL1 : Nat} {pc : Nat} {lv : List (Nat × Value)} {sk : List Value} {q : St} (C : Cx X cc own rm nL1) {x : Int32} {off : Int} (tgt : Nat) (ht : (pc : Int) + off = (tgt : Int)) (hd : decode cc pc = .ok (.ifCond .gt off, 3)) (kt : 0 < x → At X tgt lv sk q) (kf : ¬ 0 < x → At X (pc + 3) lv sk q) : At X pc lv (.int x :: sk) q := by
  obtain ⟨p, l, e, R, s, m, args, below, meth, c, Q, D, I, n, sh, ad, H0, nL, Z⟩ := X
  obtain ⟨⟨hx, hb, hml, hown, hts⟩, hK, hinj, hR, hnL, hH0, hZS, hZ⟩ := C
  exact fun H locs ls w hl => lv_if_gt hx hb hd ht (fun h => kt h H locs ls w hl) (fun h => kf h H locs ls w hl)
theorem a_if_le {X : Cv} {cc : ByteArray} {own : String} {rm : Room} {nL1 : Nat} {pc : Nat} {lv : List (Nat × Value)} {sk : List Value} {q : St} (C : Cx X cc own rm nL1) {x : Int32} {off : Int} (tgt : Nat) (ht : (pc : Int) + off = (tgt : Int)) (hd : decode cc pc = .ok (.ifCond .le off, 3)) (kt : x ≤ 0 → At X tgt lv sk q) (kf : ¬ x ≤ 0 → At X (pc + 3) lv sk q) : At X pc lv (.int x :: sk) q := by
  obtain ⟨p, l, e, R, s, m, args, below, meth, c, Q, D, I, n, sh, ad, H0, nL, Z⟩ := X
  obtain ⟨⟨hx, hb, hml, hown, hts⟩, hK, hinj, hR, hnL, hH0, hZS, hZ⟩ := C
  exact fun H locs ls w hl => lv_if_le hx hb hd ht (fun h => kt h H locs ls w hl) (fun h => kf h H locs ls w hl)
theorem a_icmp_eq {X : Cv} {cc : ByteArray} {own : String} {rm : Room} {nL1 : Nat} {pc : Nat} {lv : List (Nat × Value)} {sk : List Value} {q : St} (C : Cx X cc own rm nL1) {x y : Int32} {off : Int} (tgt : Nat) (ht : (pc : Int) + off = (tgt : Int)) (hd : decode cc pc = .ok (.if_icmp .eq off, 3)) (kt : x = y → At X tgt lv sk q) (kf : ¬ x = y → At X (pc + 3) lv sk q) : At X pc lv (.int y :: .int x :: sk) q := by
  obtain ⟨p, l, e, R, s, m, args, below, meth, c, Q, D, I, n, sh, ad, H0, nL, Z⟩ := X
  obtain ⟨⟨hx, hb, hml, hown, hts⟩, hK, hinj, hR, hnL, hH0, hZS, hZ⟩ := C
  exact fun H locs ls w hl => lv_icmp_eq hx hb hd ht (fun h => kt h H locs ls w hl) (fun h => kf h H locs ls w hl)
theorem a_icmp_ne {X : Cv} {cc : ByteArray} {own : String} {rm : Room} {nL1 : Nat} {pc : Nat} {lv : List (Nat × Value)} {sk : List Value} {q : St} (C : Cx X cc own rm nL1) {x y : Int32} {off : Int} (tgt : Nat) (ht : (pc : Int) + off = (tgt : Int)) (hd : decode cc pc = .ok (.if_icmp .ne off, 3)) (kt : ¬ x = y → At X tgt lv sk q) (kf : x = y → At X (pc + 3) lv sk q) : At X pc lv (.int y :: .int x :: sk) q := by
  obtain ⟨p, l, e, R, s, m, args, below, meth, c, Q, D, I, n, sh, ad, H0, nL, Z⟩ := X
  obtain ⟨⟨hx, hb, hml, hown, hts⟩, hK, hinj, hR, hnL, hH0, hZS, hZ⟩ := C
  exact fun H locs ls w hl => lv_icmp_ne hx hb hd ht (fun h => kt h H locs ls w hl) (fun h => kf h H locs ls w hl)
theorem a_icmp_lt {X : Cv} {cc : ByteArray} {own : String} {rm : Room} {nL1 : Nat} {pc : Nat} {lv : List (Nat × Value)} {sk : List Value} {q : St} (C : Cx X cc own rm nL1) {x y : Int32} {off : Int} (tgt : Nat) (ht : (pc : Int) + off = (tgt : Int)) (hd : decode cc pc = .ok (.if_icmp .lt off, 3)) (kt : x < y → At X tgt lv sk q) (kf : ¬ x < y → At X (pc + 3) lv sk q) : At X pc lv (.int y :: .int x :: sk) q := by
  obtain ⟨p, l, e, R, s, m, args, below, meth, c, Q, D, I, n, sh, ad, H0, nL, Z⟩ := X
  obtain ⟨⟨hx, hb, hml, hown, hts⟩, hK, hinj, hR, hnL, hH0, hZS, hZ⟩ := C
  exact fun H locs ls w hl => lv_icmp_lt hx hb hd ht (fun h => kt h H locs ls w hl) (fun h => kf h H locs ls w hl)
theorem a_icmp_ge {X : Cv} {cc : ByteArray} {own : String} {rm : Room} {nL1 : Nat} {pc : Nat} {lv : List (Nat × Value)} {sk : List Value} {q : St} (C : Cx X cc own rm nL1) {x y : Int32} {off : Int} (tgt : Nat) (ht : (pc : Int) + off = (tgt : Int)) (hd : decode cc pc = .ok (.if_icmp .ge off, 3)) (kt : y ≤ x → At X tgt lv sk q) (kf : ¬ y ≤ x → At X (pc + 3) lv sk q) : At X pc lv (.int y :: .int x :: sk) q := by
  obtain ⟨p, l, e, R, s, m, args, below, meth, c, Q, D, I, n, sh, ad, H0, nL, Z⟩ := X
  obtain ⟨⟨hx, hb, hml, hown, hts⟩, hK, hinj, hR, hnL, hH0, hZS, hZ⟩ := C
  exact fun H locs ls w hl => lv_icmp_ge hx hb hd ht (fun h => kt h H locs ls w hl) (fun h => kf h H locs ls w hl)
theorem a_icmp_gt {X : Cv} {cc : ByteArray} {own : String} {rm : Room} {nL1 : Nat} {pc : Nat} {lv : List (Nat × Value)} {sk : List Value} {q : St} (C : Cx X cc own rm nL1) {x y : Int32} {off : Int} (tgt : Nat) (ht : (pc : Int) + off = (tgt : Int)) (hd : decode cc pc = .ok (.if_icmp .gt off, 3)) (kt : y < x → At X tgt lv sk q) (kf : ¬ y < x → At X (pc + 3) lv sk q) : At X pc lv (.int y :: .int x :: sk) q := by
  obtain ⟨p, l, e, R, s, m, args, below, meth, c, Q, D, I, n, sh, ad, H0, nL, Z⟩ := X
  obtain ⟨⟨hx, hb, hml, hown, hts⟩, hK, hinj, hR, hnL, hH0, hZS, hZ⟩ := C
  exact fun H locs ls w hl => lv_icmp_gt hx hb hd ht (fun h => kt h H locs ls w hl) (fun h => kf h H locs ls w hl)
theorem a_icmp_le {X : Cv} {cc : ByteArray} {own : String} {rm : Room} {nL1 : Nat} {pc : Nat} {lv : List (Nat × Value)} {sk : List Value} {q : St} (C : Cx X cc own rm nL1) {x y : Int32} {off : Int} (tgt : Nat) (ht : (pc : Int) + off = (tgt : Int)) (hd : decode cc pc = .ok (.if_icmp .le off, 3)) (kt : x ≤ y → At X tgt lv sk q) (kf : ¬ x ≤ y → At X (pc + 3) lv sk q) : At X pc lv (.int y :: .int x :: sk) q := by
  obtain ⟨p, l, e, R, s, m, args, below, meth, c, Q, D, I, n, sh, ad, H0, nL, Z⟩ := X
  obtain ⟨⟨hx, hb, hml, hown, hts⟩, hK, hinj, hR, hnL, hH0, hZS, hZ⟩ := C
  exact fun H locs ls w hl => lv_icmp_le hx hb hd ht (fun h => kt h H locs ls w hl) (fun h => kf h H locs ls w hl)
theorem a_goto {X : Cv} {cc : ByteArray} {own : String} {rm : Room} {nL1 : Nat} {pc : Nat} {lv : List (Nat × Value)} {sk : List Value} {q : St} (C : Cx X cc own rm nL1) {off : Int} (tgt : Nat) (ht : (pc : Int) + off = (tgt : Int)) (hd : decode cc pc = .ok (.goto off, 3)) (k : At X tgt lv sk q) : At X pc lv sk q := by
  obtain ⟨p, l, e, R, s, m, args, below, meth, c, Q, D, I, n, sh, ad, H0, nL, Z⟩ := X
  obtain ⟨⟨hx, hb, hml, hown, hts⟩, hK, hinj, hR, hnL, hH0, hZS, hZ⟩ := C
  exact fun H locs ls w hl => lv_goto hx hb hd ht (k H locs ls w hl)
theorem a_tabOut {X : Cv} {cc : ByteArray} {own : String} {rm : Room} {nL1 : Nat} {pc : Nat} {lv : List (Nat × Value)} {sk : List Value} {q : St} (C : Cx X cc own rm nL1) {dflt lo hi : Int} {offs : Array Int} {len : Nat} {x : Int32} (tgt : Nat) (hd : decode cc pc = .ok (.tableswitch dflt lo hi offs, len)) (h : x.toInt < lo ∨ hi < x.toInt) (ht : (pc : Int) + dflt = (tgt : Int)) (k : At X tgt lv sk q) : At X pc lv (.int x :: sk) q := by
  obtain ⟨p, l, e, R, s, m, args, below, meth, c, Q, D, I, n, sh, ad, H0, nL, Z⟩ := X
  obtain ⟨⟨hx, hb, hml, hown, hts⟩, hK, hinj, hR, hnL, hH0, hZS, hZ⟩ := C
  exact fun H locs ls w hl => lv_tableOut hx hb hd h ht (k H locs ls w hl)
theorem a_tabIn {X : Cv} {cc : ByteArray} {own : String} {rm : Room} {nL1 : Nat} {pc : Nat} {lv : List (Nat × Value)} {sk : List Value} {q : St} (C : Cx X cc own rm nL1) {dflt lo hi : Int} {offs : Array Int} {len : Nat} {x : Int32} {off : Int} (tgt : Nat) (hd : decode cc pc = .ok (.tableswitch dflt lo hi offs, len)) (h1 : ¬ x.toInt < lo) (h2 : ¬ hi < x.toInt) (ho : offs[(x.toInt - lo).toNat]? = some off) (ht : (pc : Int) + off = (tgt : Int)) (k : At X tgt lv sk q) : At X pc lv (.int x :: sk) q := by
  obtain ⟨p, l, e, R, s, m, args, below, meth, c, Q, D, I, n, sh, ad, H0, nL, Z⟩ := X
  obtain ⟨⟨hx, hb, hml, hown, hts⟩, hK, hinj, hR, hnL, hH0, hZS, hZ⟩ := C
  exact fun H locs ls w hl => lv_tableIn hx hb hd h1 h2 ho ht (k H locs ls w hl)
theorem a_iret {X : Cv} {cc : ByteArray} {ty : FieldType} {pc : Nat} {lv : List (Nat × Value)} {q : St} {z : Int32 × St} {r : Int32} (hret : RokI X cc ty z.1 z.2) (h : some (r, q) = some z) (hn : narrow ty (.int r) = .int r) (hd : decode cc pc = .ok (.ireturn, 1)) : At X pc lv [.int r] q := by
  cases h
  exact hret pc lv hn hd
theorem a_iretR {X : Cv} {cc : ByteArray} {ty : FieldType} {pc : Nat} {lv : List (Nat × Value)} {q : St} {z r : Int32} (hret : RokI X cc ty z q) (h : some r = some z) (hn : narrow ty (.int r) = .int r) (hd : decode cc pc = .ok (.ireturn, 1)) : At X pc lv [.int r] q := by
  cases h
  exact hret pc lv hn hd
theorem a_vret {X : Cv} {cc : ByteArray} {pc : Nat} {lv : List (Nat × Value)} {q z : St} (hret : RokV X cc z) (h : some q = some z) (hd : decode cc pc = .ok (.return_, 1)) : At X pc lv [] q := by
  cases h
  exact hret pc lv hd
theorem a_top {X : Cv} {pc : Nat} {lv : List (Nat × Value)} {sk : List Value} {q : St} {x y : Int32} (e : y = x) (k : At X pc lv (.int y :: sk) q) : At X pc lv (.int x :: sk) q := e ▸ k
theorem a_get {X : Cv} {cc : ByteArray} {own : String} {rm : Room} {nL1 : Nat} {pc : Nat} {lv : List (Nat × Value)} {sk : List Value} {q : St} (C : Cx X cc own rm nL1) {Cn : String} {T : u_T} {N ci ix kp : Nat} {fs : List Value} {v : Value} (hkp : kp < (nOf X)) (he : (shOf X) (adOf X) kp (q.1 kp) q.2 = .inr (ci, fs)) (hc : vwCl[ci]? = some (Cn, T, N)) (hin : ∀ w ∈ u_ws Cn T N, w ∈ lw_tg) (k0 : Nat) (hk : k0 < N) (hv : fs[k0]? = some v) (hT : (T k0).1 = Cn) (hlk : Cond.fieldLink own ix Cn (T k0).2.1 (T k0).2.2.1 ∈ lw_tg) (hd : decode cc pc = .ok (.getfield ix, 3)) (k : At X (pc + 3) lv (v :: sk) q) : At X pc lv (.ref ((adOf X) kp) :: sk) q := by
  obtain ⟨p, l, e, R, s, m, args, below, meth, c, Q, D, I, n, sh, ad, H0, nL, Z⟩ := X
  obtain ⟨⟨hx, hb, hml, hown, hts⟩, hK, hinj, hR, hnL, hH0, hZS, hZ⟩ := C
  exact fun H locs ls w hl => va_get (D := D) (C := Cn) (T := T) (N := N) hx hb hts hin hown hK w.1 kp ((pic_get hkp).trans (by rw [show sh ad kp (q.1 kp) q.2 = _ from he])) hc k0 hk (hts _ hlk) (fun _ h9 => by rw [hT] at h9; exact h9) hv hd (k H locs ls w hl)
theorem a_put {X : Cv} {cc : ByteArray} {own : String} {rm : Room} {nL1 : Nat} {pc : Nat} {lv : List (Nat × Value)} {sk : List Value} {q : St} (C : Cx X cc own rm nL1) {Cn : String} {T : u_T} {N ci ix kp : Nat} {fs : List Value} {v : Value} {q2 : St} (hkp : kp < (nOf X)) (he : (shOf X) (adOf X) kp (q.1 kp) q.2 = .inr (ci, fs)) (hc : vwCl[ci]? = some (Cn, T, N)) (hin : ∀ w ∈ u_ws Cn T N, w ∈ lw_tg) (ty0 : Nat → FieldType) (hty : ∀ k, k < N → parseFieldDescriptor (T k).2.2.1 = some (ty0 k)) (hnm : ∀ a, a < N → ∀ b, b < N → a ≠ b → (T a).2.1 ≠ (T b).2.1) (k0 : Nat) (hk : k0 < N) (hl0 : k0 < fs.length) (hT : (T k0).1 = Cn) (hlk : Cond.fieldLink own ix Cn (T k0).2.1 (T k0).2.2.1 ∈ lw_tg) (hfin : (T k0).2.2.2 = false) (hn : narrow (ty0 k0) v = v) (hfit : fits (ty0 k0) v = true) (hset : (pic (nOf X) (shOf X) (adOf X) q).set kp ((adOf X) kp, .inr (ci, fs.set k0 v)) = pic (nOf X) (shOf X) (adOf X) q2) (hd : decode cc pc = .ok (.putfield ix, 3)) (k : At X (pc + 3) lv sk q2) : At X pc lv (v :: .ref ((adOf X) kp) :: sk) q := by
  obtain ⟨p, l, e, R, s, m, args, below, meth, c, Q, D, I, n, sh, ad, H0, nL, Z⟩ := X
  obtain ⟨⟨hx, hb, hml, hown, hts⟩, hK, hinj, hR, hnL, hH0, hZS, hZ⟩ := C
  exact fun H locs ls w hl => va_put (D := D) (C := Cn) (T := T) (N := N) hx hb hts hin ty0 hty hnm hown hK w.1 (pic_D hinj) w.2 kp ((pic_get hkp).trans (by rw [show sh ad kp (q.1 kp) q.2 = _ from he])) hc k0 hk (hts _ hlk) (fun _ h9 => by rw [hT] at h9; exact h9) hfin (hty k0 hk) hn hfit hl0 hd (fun H1 locs1 hP1 _ hS1 => k H1 locs1 ls ⟨by rw [← show _ = pic n sh ad q2 from hset]; exact hP1, hS1⟩ hl)
theorem a_iald {X : Cv} {cc : ByteArray} {own : String} {rm : Room} {nL1 : Nat} {pc : Nat} {lv : List (Nat × Value)} {sk : List Value} {q : St} (C : Cx X cc own rm nL1) {kp len : Nat} {i x : Int32} (hkp : kp < (nOf X)) (he : ∀ f w, (shOf X) (adOf X) kp f w = .inl ((idOf X).1, len, .inl f)) (hr : rd len q kp i = some x) (hd : decode cc pc = .ok (.iaload, 1)) (k : At X (pc + 1) lv (.int x :: sk) q) : At X pc lv (.int i :: .ref ((adOf X) kp) :: sk) q := by
  obtain ⟨p, l, e, R, s, m, args, below, meth, c, Q, D, I, n, sh, ad, H0, nL, Z⟩ := X
  obtain ⟨⟨hx, hb, hml, hown, hts⟩, hK, hinj, hR, hnL, hH0, hZS, hZ⟩ := C
  obtain ⟨hin, rfl⟩ := rd_in hr
  exact fun H locs ls w hl => va_iald (D := D) (f := q.1 kp) hx hb hK w.1 kp 0 ((pic_get hkp).trans (by rw [show sh ad kp (q.1 kp) q.2 = _ from he _ _])) rfl hin hd (k H locs ls w hl)
theorem a_bald {X : Cv} {cc : ByteArray} {own : String} {rm : Room} {nL1 : Nat} {pc : Nat} {lv : List (Nat × Value)} {sk : List Value} {q : St} (C : Cx X cc own rm nL1) {kp len : Nat} {i x : Int32} (hkp : kp < (nOf X)) (he : ∀ f w, (shOf X) (adOf X) kp f w = .inl ((idOf X).2.1, len, .inl f)) (hr : rd len q kp i = some x) (hd : decode cc pc = .ok (.baload, 1)) (k : At X (pc + 1) lv (.int x :: sk) q) : At X pc lv (.int i :: .ref ((adOf X) kp) :: sk) q := by
  obtain ⟨p, l, e, R, s, m, args, below, meth, c, Q, D, I, n, sh, ad, H0, nL, Z⟩ := X
  obtain ⟨⟨hx, hb, hml, hown, hts⟩, hK, hinj, hR, hnL, hH0, hZS, hZ⟩ := C
  obtain ⟨hin, rfl⟩ := rd_in hr
  exact fun H locs ls w hl => va_bald (D := D) (f := q.1 kp) hx hb hK w.1 kp 1 ((pic_get hkp).trans (by rw [show sh ad kp (q.1 kp) q.2 = _ from he _ _])) rfl hin hd (k H locs ls w hl)
theorem a_zald {X : Cv} {cc : ByteArray} {own : String} {rm : Room} {nL1 : Nat} {pc : Nat} {lv : List (Nat × Value)} {sk : List Value} {q : St} (C : Cx X cc own rm nL1) {kp len : Nat} {i x : Int32} (hkp : kp < (nOf X)) (he : ∀ f w, (shOf X) (adOf X) kp f w = .inl ((idOf X).2.2.1, len, .inl f)) (hr : rd len q kp i = some x) (hd : decode cc pc = .ok (.baload, 1)) (k : At X (pc + 1) lv (.int x :: sk) q) : At X pc lv (.int i :: .ref ((adOf X) kp) :: sk) q := by
  obtain ⟨p, l, e, R, s, m, args, below, meth, c, Q, D, I, n, sh, ad, H0, nL, Z⟩ := X
  obtain ⟨⟨hx, hb, hml, hown, hts⟩, hK, hinj, hR, hnL, hH0, hZS, hZ⟩ := C
  obtain ⟨hin, rfl⟩ := rd_in hr
  exact fun H locs ls w hl => va_zald (D := D) (f := q.1 kp) hx hb hK w.1 kp 2 ((pic_get hkp).trans (by rw [show sh ad kp (q.1 kp) q.2 = _ from he _ _])) rfl hin hd (k H locs ls w hl)
theorem a_iast {X : Cv} {cc : ByteArray} {own : String} {rm : Room} {nL1 : Nat} {pc : Nat} {lv : List (Nat × Value)} {sk : List Value} {q : St} (C : Cx X cc own rm nL1) {kp len : Nat} {i x : Int32} {q2 : St} (hkp : kp < (nOf X)) (he : ∀ f w, (shOf X) (adOf X) kp f w = .inl ((idOf X).1, len, .inl f)) (hw : wr len q kp i x = some q2) (hd : decode cc pc = .ok (.iastore, 1)) (k : At X (pc + 1) lv sk q2) : At X pc lv (.int x :: .int i :: .ref ((adOf X) kp) :: sk) q := by
  obtain ⟨p, l, e, R, s, m, args, below, meth, c, Q, D, I, n, sh, ad, H0, nL, Z⟩ := X
  obtain ⟨⟨hx, hb, hml, hown, hts⟩, hK, hinj, hR, hnL, hH0, hZS, hZ⟩ := C
  obtain ⟨hin, rfl⟩ := wr_in hw
  exact fun H locs ls w hl => va_iast (D := D) hx hb hK w.1 (pic_D hinj) w.2 kp 0 ((pic_get hkp).trans (by rw [show sh ad kp (q.1 kp) q.2 = _ from he _ _])) rfl hin hd (fun H1 locs1 hP1 _ hS1 => k H1 locs1 ls ⟨by rw [st, ← pic_set (sh := sh) hkp, show sh ad kp _ q.2 = _ from he _ _]; exact hP1, hS1⟩ hl)
theorem a_bast {X : Cv} {cc : ByteArray} {own : String} {rm : Room} {nL1 : Nat} {pc : Nat} {lv : List (Nat × Value)} {sk : List Value} {q : St} (C : Cx X cc own rm nL1) {kp len : Nat} {i x : Int32} {q2 : St} (hkp : kp < (nOf X)) (he : ∀ f w, (shOf X) (adOf X) kp f w = .inl ((idOf X).2.1, len, .inl f)) (hw : wr len q kp i (vp_nar .byte x) = some q2) (hd : decode cc pc = .ok (.bastore, 1)) (k : At X (pc + 1) lv sk q2) : At X pc lv (.int x :: .int i :: .ref ((adOf X) kp) :: sk) q := by
  obtain ⟨p, l, e, R, s, m, args, below, meth, c, Q, D, I, n, sh, ad, H0, nL, Z⟩ := X
  obtain ⟨⟨hx, hb, hml, hown, hts⟩, hK, hinj, hR, hnL, hH0, hZS, hZ⟩ := C
  obtain ⟨hin, rfl⟩ := wr_in hw
  exact fun H locs ls w hl => va_bast (D := D) hx hb hK w.1 (pic_D hinj) w.2 kp 1 ((pic_get hkp).trans (by rw [show sh ad kp (q.1 kp) q.2 = _ from he _ _])) rfl hin hd (fun H1 locs1 hP1 _ hS1 => k H1 locs1 ls ⟨by rw [st, ← pic_set (sh := sh) hkp, show sh ad kp _ q.2 = _ from he _ _]; exact hP1, hS1⟩ hl)
theorem a_zast {X : Cv} {cc : ByteArray} {own : String} {rm : Room} {nL1 : Nat} {pc : Nat} {lv : List (Nat × Value)} {sk : List Value} {q : St} (C : Cx X cc own rm nL1) {kp len : Nat} {i x : Int32} {q2 : St} (hkp : kp < (nOf X)) (he : ∀ f w, (shOf X) (adOf X) kp f w = .inl ((idOf X).2.2.1, len, .inl f)) (hw : wr len q kp i (vp_nar .boolean x) = some q2) (hd : decode cc pc = .ok (.bastore, 1)) (k : At X (pc + 1) lv sk q2) : At X pc lv (.int x :: .int i :: .ref ((adOf X) kp) :: sk) q := by
  obtain ⟨p, l, e, R, s, m, args, below, meth, c, Q, D, I, n, sh, ad, H0, nL, Z⟩ := X
  obtain ⟨⟨hx, hb, hml, hown, hts⟩, hK, hinj, hR, hnL, hH0, hZS, hZ⟩ := C
  obtain ⟨hin, rfl⟩ := wr_in hw
  exact fun H locs ls w hl => va_zast (D := D) hx hb hK w.1 (pic_D hinj) w.2 kp 2 ((pic_get hkp).trans (by rw [show sh ad kp (q.1 kp) q.2 = _ from he _ _])) rfl hin hd (fun H1 locs1 hP1 _ hS1 => k H1 locs1 ls ⟨by rw [st, ← pic_set (sh := sh) hkp, show sh ad kp _ q.2 = _ from he _ _]; exact hP1, hS1⟩ hl)
theorem a_alen {X : Cv} {cc : ByteArray} {own : String} {rm : Room} {nL1 : Nat} {pc : Nat} {lv : List (Nat × Value)} {sk : List Value} {q : St} (C : Cx X cc own rm nL1) {kp len : Nat} {v : Int32} {f : Nat → Int32} {cA : ClassId} (j : Nat) {ty : FieldType} (hkp : kp < (nOf X)) (he : (shOf X) (adOf X) kp (q.1 kp) q.2 = .inl (cA, len, .inl f)) (hj : (tysL (idOf X))[j]? = some (cA, ty)) (hv : Int32.ofNat len = v) (hd : decode cc pc = .ok (.arraylength, 1)) (k : At X (pc + 1) lv (.int v :: sk) q) : At X pc lv (.ref ((adOf X) kp) :: sk) q := by
  obtain ⟨p, l, e, R, s, m, args, below, meth, c, Q, D, I, n, sh, ad, H0, nL, Z⟩ := X
  obtain ⟨⟨hx, hb, hml, hown, hts⟩, hK, hinj, hR, hnL, hH0, hZS, hZ⟩ := C
  exact fun H locs ls w hl => va_alen (D := D) hx hb hK w.1 kp j ((pic_get hkp).trans (by rw [show sh ad kp (q.1 kp) q.2 = _ from he])) hj hv hd (k H locs ls w hl)
theorem a_callVi {X : Cv} {cc : ByteArray} {own : String} {rm : Room} {nL1 : Nat} {pc : Nat} {lv : List (Nat × Value)} {sk : List Value} {q : St} (C : Cx X cc own rm nL1) {y : MethodName} {bytes : ByteArray} {maxL ix : Nat} {ret : Option FieldType} {rm2 : Room} {as : List Value} {kp ci : Nat} {fs : List Value} {T : u_T} {N : Nat} {r : Int32} {sk0 : List Value} {q2 : St} (hkp : kp < (nOf X)) (he : (shOf X) (adOf X) kp (q.1 kp) q.2 = .inr (ci, fs)) (hc : vwCl[ci]? = some (y.cls, T, N)) (hM : Ctr X.2.1 (dOf X) (idOf X) (zOf X) (nOf X) (shOf X) (adOf X) y bytes maxL ret rm2 (.ref ((adOf X) kp) :: as) q (some r) q2) (hG : GoodIn lw_tg (wsV own ix y.cls y (Cond.code y bytes maxL ret :: lw_tg))) (hz : rm2.cells = 0 ∧ rm2.slots = 0 ∧ rm2.frames + 1 ≤ rm.frames ∧ 8 + (maxL + 11) + rm2.locals ≤ rm.locals) (hy : y.cls ≠ "java/lang/invoke/MethodHandle" ∧ y.cls ≠ "java/lang/invoke/VarHandle" ∧ (parseMethodDescriptor y.desc).map (fun d => d.parameters.length) = some as.length) (hr : (sk.map fun v => v.category).sum ≤ 8) (hsk : as.reverse ++ .ref ((adOf X) kp) :: sk = sk0) (hd : decode cc pc = .ok (.invokevirtual ix, 3)) (k : At X (pc + 3) lv (.int r :: sk) q2) : At X pc lv sk0 q := by
  obtain ⟨p, l, e, R, s, m, args, below, meth, c, Q, D, I, n, sh, ad, H0, nL, Z⟩ := X
  obtain ⟨⟨hx, hb, hml, hown, hts⟩, hK, hinj, hR, hnL, hH0, hZS, hZ⟩ := C
  subst hR; subst hsk
  intro H locs ls w hl
  have hget : (pic n sh ad q)[kp]? = some (ad kp, .inr (ci, fs)) := (pic_get hkp).trans (by rw [show sh ad kp (q.1 kp) q.2 = _ from he])
  refine va_calli (va_runV (C := y.cls) (b := ad kp) (As := as) (rest := sk) ⟨hx, hb, hml, hown, hts⟩ (show Met l y _ rm2 _ _ 0 0 _ from hM) (cwV as.length hts hG rfl hz.1 hz.2.1 ⟨rfl, hy.1, hy.2.1, hy.2.2⟩ hz.2.2) ⟨fun a U g mk z => by obtain ⟨z0, ⟨z1, z2, z3⟩, zP, zK⟩ := z; exact ⟨z0, ⟨z1, z2, z2.2 U g mk a z3⟩, zP, va_K.moved (u := U) (U := U.calling g mk a) (Vm.Alike.refl U.vm) zK⟩, va_recv hK w.1 hc hget, fun U hU hW => ⟨rfl, ⟨hinj, hZS, hZS.1 s U hZ hW (by rw [hU]; subst hH0; exact w.2.2.1)⟩, by rw [hU]; exact w.1, va_K.moved hW.alike hK⟩⟩ rfl rfl hl.1 rfl (lv_room hr) hd ⟨Nat.zero_le _, Nat.zero_le _⟩) w.2 (fun _ _ h => h) (fun _ h => h) ?_
  intro r1 u t H1 locs1 ht hvm hw hB hz1 hk1 hS1
  have hw : r1 = r := hw
  have hB : va_P D vwCl (pic n sh ad q2) t.heap := hB
  subst hw
  exact k H1 locs1 ls ⟨by rw [← ht]; exact hB, hS1⟩ hl
theorem a_callVv {X : Cv} {cc : ByteArray} {own : String} {rm : Room} {nL1 : Nat} {pc : Nat} {lv : List (Nat × Value)} {sk : List Value} {q : St} (C : Cx X cc own rm nL1) {y : MethodName} {bytes : ByteArray} {maxL ix : Nat} {ret : Option FieldType} {rm2 : Room} {as : List Value} {kp ci : Nat} {fs : List Value} {T : u_T} {N : Nat} {sk0 : List Value} {q2 : St} (hkp : kp < (nOf X)) (he : (shOf X) (adOf X) kp (q.1 kp) q.2 = .inr (ci, fs)) (hc : vwCl[ci]? = some (y.cls, T, N)) (hM : Ctr X.2.1 (dOf X) (idOf X) (zOf X) (nOf X) (shOf X) (adOf X) y bytes maxL ret rm2 (.ref ((adOf X) kp) :: as) q none q2) (hG : GoodIn lw_tg (wsV own ix y.cls y (Cond.code y bytes maxL ret :: lw_tg))) (hz : rm2.cells = 0 ∧ rm2.slots = 0 ∧ rm2.frames + 1 ≤ rm.frames ∧ 8 + (maxL + 11) + rm2.locals ≤ rm.locals) (hy : y.cls ≠ "java/lang/invoke/MethodHandle" ∧ y.cls ≠ "java/lang/invoke/VarHandle" ∧ (parseMethodDescriptor y.desc).map (fun d => d.parameters.length) = some as.length) (hr : (sk.map fun v => v.category).sum ≤ 8) (hsk : as.reverse ++ .ref ((adOf X) kp) :: sk = sk0) (hd : decode cc pc = .ok (.invokevirtual ix, 3)) (k : At X (pc + 3) lv (sk) q2) : At X pc lv sk0 q := by
  obtain ⟨p, l, e, R, s, m, args, below, meth, c, Q, D, I, n, sh, ad, H0, nL, Z⟩ := X
  obtain ⟨⟨hx, hb, hml, hown, hts⟩, hK, hinj, hR, hnL, hH0, hZS, hZ⟩ := C
  subst hR; subst hsk
  intro H locs ls w hl
  have hget : (pic n sh ad q)[kp]? = some (ad kp, .inr (ci, fs)) := (pic_get hkp).trans (by rw [show sh ad kp (q.1 kp) q.2 = _ from he])
  refine va_callv (va_runV (C := y.cls) (b := ad kp) (As := as) (rest := sk) ⟨hx, hb, hml, hown, hts⟩ (show Met l y _ rm2 _ _ 0 0 _ from hM) (cwV as.length hts hG rfl hz.1 hz.2.1 ⟨rfl, hy.1, hy.2.1, hy.2.2⟩ hz.2.2) ⟨fun a U g mk z => by obtain ⟨z0, ⟨z1, z2, z3⟩, zP, zK⟩ := z; exact ⟨z0, ⟨z1, z2, z2.2 U g mk a z3⟩, zP, va_K.moved (u := U) (U := U.calling g mk a) (Vm.Alike.refl U.vm) zK⟩, va_recv hK w.1 hc hget, fun U hU hW => ⟨rfl, ⟨hinj, hZS, hZS.1 s U hZ hW (by rw [hU]; subst hH0; exact w.2.2.1)⟩, by rw [hU]; exact w.1, va_K.moved hW.alike hK⟩⟩ rfl rfl hl.1 rfl (lv_room hr) hd ⟨Nat.zero_le _, Nat.zero_le _⟩) w.2 (fun _ _ h => h) (fun _ h => h) ?_
  intro u t H1 locs1 ht hvm hw hB hz1 hk1 hS1
  have hB : va_P D vwCl (pic n sh ad q2) t.heap := hB
  exact k H1 locs1 ls ⟨by rw [← ht]; exact hB, hS1⟩ hl
theorem a_callSi {X : Cv} {cc : ByteArray} {own : String} {rm : Room} {nL1 : Nat} {pc : Nat} {lv : List (Nat × Value)} {sk : List Value} {q : St} (C : Cx X cc own rm nL1) {y : MethodName} {bytes : ByteArray} {maxL ix : Nat} {ret : Option FieldType} {rm2 : Room} {as : List Value} {r : Int32} {sk0 : List Value} {q2 : St} (hM : Ctr X.2.1 (dOf X) (idOf X) (zOf X) (nOf X) (shOf X) (adOf X) y bytes maxL ret rm2 as q (some r) q2) (hG : GoodIn lw_tg (wsS own ix y (Cond.code y bytes maxL ret :: lw_tg))) (hz : rm2.cells = 0 ∧ rm2.slots = 0 ∧ rm2.frames + 1 ≤ rm.frames ∧ 8 + (maxL + 11) + rm2.locals ≤ rm.locals) (hy : y.cls = own ∧ y.cls ≠ "java/lang/invoke/MethodHandle" ∧ y.cls ≠ "java/lang/invoke/VarHandle" ∧ (parseMethodDescriptor y.desc).map (fun d => d.parameters.length) = some as.length) (hr : (sk.map fun v => v.category).sum ≤ 8) (hsk : as.reverse ++ sk = sk0) (hd : decode cc pc = .ok (.invokestatic ix, 3)) (k : At X (pc + 3) lv (.int r :: sk) q2) : At X pc lv sk0 q := by
  obtain ⟨p, l, e, R, s, m, args, below, meth, c, Q, D, I, n, sh, ad, H0, nL, Z⟩ := X
  obtain ⟨⟨hx, hb, hml, hown, hts⟩, hK, hinj, hR, hnL, hH0, hZS, hZ⟩ := C
  subst hR; subst hsk
  intro H locs ls w hl
  refine va_calli (va_runS (As := as) (rest := sk) ⟨hx, hb, hml, hown, hts⟩ (show Met l y _ rm2 _ _ 0 0 _ from hM) (cwS as.length hts hG rfl hz.1 hz.2.1 hy hz.2.2) ⟨fun a U g mk z => by obtain ⟨z0, ⟨z1, z2, z3⟩, zP, zK⟩ := z; exact ⟨z0, ⟨z1, z2, z2.2 U g mk a z3⟩, zP, va_K.moved (u := U) (U := U.calling g mk a) (Vm.Alike.refl U.vm) zK⟩, fun U hU hW => ⟨rfl, ⟨hinj, hZS, hZS.1 s U hZ hW (by rw [hU]; subst hH0; exact w.2.2.1)⟩, by rw [hU]; exact w.1, va_K.moved hW.alike hK⟩⟩ rfl rfl hl.1 rfl (lv_room hr) hd ⟨Nat.zero_le _, Nat.zero_le _⟩) w.2 (fun _ _ h => h) (fun _ h => h) ?_
  intro r1 u t H1 locs1 ht hvm hw hB hz1 hk1 hS1
  have hw : r1 = r := hw
  have hB : va_P D vwCl (pic n sh ad q2) t.heap := hB
  subst hw
  exact k H1 locs1 ls ⟨by rw [← ht]; exact hB, hS1⟩ hl
