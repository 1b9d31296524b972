/-! ===== the strings: their rows ===== -/
def sL (w : Nat) : Int32 := nI (sLn.getD w 0)
def sC (w : Nat) (i : Int32) : Option Int32 := if i < 0 ∨ sLn.getD w 0 ≤ i.toNatClampNeg then none else some ((sBy.getD w []).getD i.toNatClampNeg 0)
theorem a_ldcS {X : Cv} {cc : ByteArray} {rm : Room} {nL1 pc : Nat} {lv : List (Nat × Value)} {sk : List Value} {q : St} (C : Cx X cc RX5 rm nL1) (S : IsK X) (i : Nat) (hi : i < 8) (hd : decode cc pc = .ok (.ldc (sIx.getD i 0), 2)) (k : At X (pc + 2) lv (.ref (adOf X (1000 + i)) :: sk) q) : At X pc lv sk q := by
  have hz := S.2.2
  obtain ⟨p, l, e, R, s, m, args, below, meth, c, Q, D, I, n, sh, ad, H0, nL, Z⟩ := X
  obtain ⟨⟨hx, hb, hml, hown, hts⟩, hK, hinj, hR, hnL, hH0, hZS, hZ⟩ := C
  have hz : Z = zK ad := hz
  subst hz
  exact fun H locs ls w hl => va_ldcS hx hb hown (hZ.2.1 i hi) hd (k H locs ls w hl)
theorem k_sLen {X : Cv} {cc : ByteArray} {own : String} {rm : Room} {nL1 pc ix w : Nat} {lv : List (Nat × Value)} {sk : List Value} {q : St} (C : Cx X cc own rm nL1) (S : IsK X) (hw : w < 8) (hlk : Cond.methodLink own ix yJ0_length_8abf5 ∈ lw_tg) (hz : 1 + 1 ≤ rm.frames ∧ 100 ≤ rm.locals) (hr : (sk.map fun v => v.category).sum ≤ 8) (hd : decode cc pc = .ok (.invokevirtual ix, 3)) (k : At X (pc + 3) lv (.int (sL w) :: sk) q) : At X pc lv (.ref (adOf X (1000 + w)) :: sk) q := sorry
theorem k_sCh {X : Cv} {cc : ByteArray} {own : String} {rm : Room} {nL1 pc ix w : Nat} {lv : List (Nat × Value)} {sk : List Value} {q : St} {i x : Int32} (C : Cx X cc own rm nL1) (S : IsK X) (hw : w < 8) (h : sC w i = some x) (hlk : Cond.methodLink own ix yJ0_charAt_5068e ∈ lw_tg) (hz : 3 + 1 ≤ rm.frames ∧ 150 ≤ rm.locals) (hr : (sk.map fun v => v.category).sum ≤ 8) (hd : decode cc pc = .ok (.invokevirtual ix, 3)) (k : At X (pc + 3) lv (.int x :: sk) q) : At X pc lv (.int i :: .ref (adOf X (1000 + w)) :: sk) q := sorry
