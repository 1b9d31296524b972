/-! ===== History's constructor: a loop that makes ten states ===== -/
theorem e_aast {X : Bv} {cc : ByteArray} {own : String} {rm : Room} {nL1 pc cs sl : Nat} {lv : List (Nat × Value)} {sk : List Value} {ws : va_W} (C : Bx X cc own rm nL1) {i : Int32} {v a qk : Nat} {vs : List Value} {f : Nat → Option Nat} {w0 : Nat × va_E} (hv : (w0 :: (a, .inl ((biOf X).2.2.2, 10, .inr (.inr (.inr (.inr f))))) :: ws)[qk]? = some (v, .inr (7, vs))) (hi : vp_in i 10) (hd : decode cc pc = .ok (.aastore, 1)) (k : Bt X (pc + 1) lv sk (w0 :: (a, .inl ((biOf X).2.2.2, 10, .inr (.inr (.inr (.inr (va_up f i.toNatClampNeg (some v))))))) :: ws) cs sl) : Bt X pc lv (.ref v :: .int i :: .ref a :: sk) (w0 :: (a, .inl ((biOf X).2.2.2, 10, .inr (.inr (.inr (.inr f))))) :: ws) cs sl := by
  obtain ⟨p, l, e, R, s, m, args, below, meth, c, Q, D, I, A, H0, nL⟩ := X
  obtain ⟨⟨hx, hb, hml, hown, hts⟩, hK, hR, hnL, hA, hin⟩ := C
  intro H locs ls hP hD hS hl
  exact va_astq (D := D) (r := (RX7, TX7, 11)) hx hb hK hP hD hS 1 3 qk 7 rfl rfl hv rfl hi hd (fun H1 locs1 hP1 hD1 hS1 => k H1 locs1 ls hP1 hD1 hS1 hl)
theorem Bt.sub {X : Bv} {pc cs sl : Nat} {lv lv2 : List (Nat × Value)} {sk : List Value} {ws : va_W} (ks : List Nat) (h : lv_pick lv ks = lv2) (k : Bt X pc lv2 sk ws cs sl) : Bt X pc lv sk ws cs sl := by
  obtain ⟨p, l, e, R, s, m, args, below, meth, c, Q, D, I, A, H0, nL⟩ := X
  exact fun H locs ls hP hD hS hl => k H locs ls hP hD hS (lv_sub hl ks h)
theorem Bt.eqw {X : Bv} {pc cs sl cs2 sl2 : Nat} {lv : List (Nat × Value)} {sk : List Value} {ws ws2 : va_W} (e : ws = ws2) (ec : cs = cs2) (es : sl = sl2) (k : Bt X pc lv sk ws2 cs2 sl2) : Bt X pc lv sk ws cs sl := by subst e; subst ec; subst es; exact k
def nH : State → Prop := fun U => va_Nw (.methodLinkNest RX2 17 yX7_init "LayeredMulticast") U ∧ va_AO "LayeredMulticast$State" U
theorem nH_ok : NS nH := ⟨fun _ _ h hW => ⟨va_Nw.warmM hW h.1, va_AO.moved hW.alike h.2⟩, fun U g mk a h => ⟨va_Nw.same rfl rfl h.1, va_AO.moved (u := U) (U := U.calling g mk a) (Vm.Alike.refl U.vm) h.2⟩⟩
def hb_ (I : ClassId × ClassId × ClassId × ClassId) (b : Nat → Nat → Nat) : Nat → va_W
  | 0 => []
  | i + 1 => hb_ I b i ++ pic 11 (stS I) (b i) z0
theorem hb_congr {I : ClassId × ClassId × ClassId × ClassId} {b b2 : Nat → Nat → Nat} : ∀ (i : Nat), (∀ j, j < i → b j = b2 j) → hb_ I b i = hb_ I b2 i := by
  intro i
  induction i with
  | zero => intro _; rfl
  | succ i ih => intro h; rw [hb_, hb_, ih (fun j hj => h j (by omega)), h i (by omega)]
theorem pic_len {n : Nat} {sh : Sh} {ad : Nat → Nat} {q : St} : (pic n sh ad q).length = n := by simp [pic]
theorem hb_len {I : ClassId × ClassId × ClassId × ClassId} {b : Nat → Nat → Nat} : ∀ i : Nat, (hb_ I b i).length = 11 * i := by
  intro i
  induction i with
  | zero => rfl
  | succ i ih => rw [hb_, List.length_append, ih, pic_len]; omega
theorem hb_get {I : ClassId × ClassId × ClassId × ClassId} {b : Nat → Nat → Nat} : ∀ (i t : Nat), t < 11 * i → (hb_ I b i)[t]? = some (b (t / 11) (t % 11), stSh I (b (t / 11)) (t % 11) (t % 11) (fun _ => 0)) := by
  intro i
  induction i with
  | zero => intro t h; omega
  | succ i ih =>
    intro t h
    rw [hb_]
    by_cases ht : t < 11 * i
    · rw [List.getElem?_append_left (by rw [hb_len]; exact ht)]
      exact ih t ht
    · rw [List.getElem?_append_right (by rw [hb_len]; omega), hb_len, pic_get (by omega)]
      rw [show t / 11 = i by omega, show t % 11 = t - 11 * i by omega]
      rfl
def hiW (I : ClassId × ClassId × ClassId × ClassId) (h0 qa : Nat) (b : Nat → Nat → Nat) (i : Nat) : va_W := (h0, .inr (2, [.ref qa, .int 0, .int 0])) :: (qa, .inl (I.2.2.2, 10, .inr (.inr (.inr (.inr (fun j => if j < i then some (b j 0) else none)))))) :: hb_ I b i
def hiA (h0 qa : Nat) (b : Nat → Nat → Nat) (k : Nat) : Nat := if k < 1 then h0 else if k < 2 then qa else b ((k - 2) / 11) ((k - 2) % 11)
theorem stSh_alt {I : ClassId × ClassId × ClassId × ClassId} {ad ad2 : Nat → Nat} {k k2 : Nat} {f : Nat → Int32} : ∀ (j : Nat), (j = 0 → ∀ x, x < 10 → ad (k + (x + 1)) = ad2 (k2 + (x + 1))) → stSh I ad j k f = stSh I ad2 j k2 f := by
  intro j h
  match j with
  | 0 =>
    have h := h rfl
    have e1 := h 0 (by omega)
    have e2 := h 1 (by omega)
    have e3 := h 2 (by omega)
    have e4 := h 3 (by omega)
    have e5 := h 4 (by omega)
    have e6 := h 5 (by omega)
    have e7 := h 6 (by omega)
    have e8 := h 7 (by omega)
    have e9 := h 8 (by omega)
    have e10 := h 9 (by omega)
    simp only [Nat.zero_add, Nat.reduceAdd] at e1 e2 e3 e4 e5 e6 e7 e8 e9 e10
    simp only [stSh, e1, e2, e3, e4, e5, e6, e7, e8, e9, e10]
  | 1 => rfl
  | 2 => rfl
  | 3 => rfl
  | 4 => rfl
  | 5 => rfl
  | 6 => rfl
  | 7 => rfl
  | 8 => rfl
  | 9 => rfl
  | n + 10 => rfl
theorem hiW_pic {I : ClassId × ClassId × ClassId × ClassId} {h0 qa : Nat} {b : Nat → Nat → Nat} : hiW I h0 qa b 10 = pic 112 (hiS I) (hiA h0 qa b) z0 := by
  apply List.ext_getElem?
  intro t
  match t with
  | 0 => rw [pic_get (by omega)]; rfl
  | 1 =>
    rw [pic_get (by omega)]
    show some (qa, _) = some (qa, _)
    have : (fun j => if j < 10 then some (b j 0) else none) = (fun i => if i < 10 then some (hiA h0 qa b (2 + 11 * i)) else none) := by
      funext j
      by_cases hj : j < 10
      · rw [if_pos hj, if_pos hj, hiA, if_neg (by omega), if_neg (by omega), show (2 + 11 * j - 2) / 11 = j by omega, show (2 + 11 * j - 2) % 11 = 0 by omega]
      · rw [if_neg hj, if_neg hj]
    rw [this]
    rfl
  | t + 2 =>
    show (hb_ I b 10)[t]? = _
    by_cases ht : t < 110
    · rw [hb_get 10 t ht, pic_get (by omega)]
      have e1 : hiA h0 qa b (t + 2) = b (t / 11) (t % 11) := by
        rw [hiA, if_neg (by omega), if_neg (by omega), show t + 2 - 2 = t by omega]
      have e2 : hiS I (hiA h0 qa b) (t + 2) (z0.1 (t + 2)) z0.2 = stSh I (b (t / 11)) (t % 11) (t % 11) (fun _ => 0) := by
        rw [hiS, if_neg (by omega), if_neg (by omega), show t + 2 - 2 = t by omega]
        refine stSh_alt _ (fun h x hx => ?_)
        rw [hiA, if_neg (by omega), if_neg (by omega), h, show (t + 2 + (x + 1) - 2) / 11 = t / 11 by omega, show (t + 2 + (x + 1) - 2) % 11 = 0 + (x + 1) by omega]
      rw [e1, e2]
    · rw [List.getElem?_eq_none (by rw [hb_len]; omega), List.getElem?_eq_none (by rw [pic_len]; omega)]
abbrev rmI_hiS : Room := { frames := 2, cells := 111, slots := 2770, locals := 40 }
theorem hi_loop {X : Bv} (C : Bx X cX2_init RX2 rmI_hiS 2) {h0 qa : Nat} (hN : nH X.2.2.2.2.1) (hret : Rmk X cX2_init h0 (fun a => pic 112 (hiS (biOf X)) a z0) rmI_hiS.cells rmI_hiS.slots) : ∀ (n i : Nat) (b : Nat → Nat → Nat), i + n = 10 → Bt X 15 [(0, .ref h0), (1, .int (nI i))] [] (hiW (biOf X) h0 qa b i) (1 + 11 * i) (10 + 276 * i) := by
  intro n
  induction n with
  | zero =>
    intro i b hi
    have hi : i = 10 := by omega
    subst hi
    refine e_iload C 1 rfl rfl dX2_init_15 ?_
    refine e_bipush (v := 10) C (by decide) dX2_init_16 ?_
    refine e_icmp_ge C 40 (by decide) dX2_init_18 (fun _ => ?_) (fun h => absurd (by decide) h)
    exact Bt.eqw hiW_pic rfl rfl (hret _ _ _ rfl dX2_init_40)
  | succ n ih =>
    intro i b hi
    refine e_iload C 1 rfl rfl dX2_init_15 ?_
    refine e_bipush (v := 10) C (by decide) dX2_init_16 ?_
    refine e_icmp_ge C 40 (by decide) dX2_init_18 (fun h => absurd h (nI_ge (a := i) (b := 10) (by omega) (by decide))) (fun _ => ?_)
    refine e_aload C 0 rfl rfl dX2_init_21 ?_
    unfold hiW
    refine e_get C rfl inG2 0 (by decide) rfl rfl (tg 305 (by decide +kernel) rfl) dX2_init_22 ?_
    refine e_iload C 1 rfl rfl dX2_init_25 ?_
    refine e_new (ci := 7) (fs := [.int 0, .null, .null, .null, .null, .null, .null, .null, .null, .null, .null]) C rfl inG7 tyX7 tyX7_ok (tg 302 (by decide +kernel) rfl) (tg 219 (by decide +kernel) rfl) (tg 117 (by decide +kernel) rfl) (fun j hj => by rcases (show j = 0 ∨ j = 1 ∨ j = 2 ∨ j = 3 ∨ j = 4 ∨ j = 5 ∨ j = 6 ∨ j = 7 ∨ j = 8 ∨ j = 9 ∨ j = 10 by omega) with rfl | rfl | rfl | rfl | rfl | rfl | rfl | rfl | rfl | rfl | rfl <;> rfl) (by show _ ≤ 111; omega) (by show _ ≤ 2770; omega) dX2_init_26 (fun q => ?_)
    refine e_dup C rfl dX2_init_29 ?_
    refine e_ctorN (as := []) C i_stS nT_ok trivial hN.1 (tg 222 (by decide +kernel) rfl) (tg 117 (by decide +kernel) rfl) (tg 221 (by decide +kernel) rfl) rfl ⟨by decide, by decide, by show Option.map _ (parseMethodDescriptor yX7_init.desc) = some 0; decide⟩ ⟨Nat.le_of_ble_eq_true rfl, Nat.le_of_ble_eq_true rfl⟩ ⟨by show _ ≤ 111; show 1 + 11 * i + 1 + 10 ≤ 111; omega, by show 10 + 276 * i + 11 + 265 ≤ 2770; omega⟩ (Nat.le_of_ble_eq_true rfl) rfl dX2_init_30 (fun a ha => ?_)
    have hpos : vp_in (nI i) 10 := vp_in_nI (by omega) (by decide)
    refine e_aast (qk := 2 + 11 * i) (vs := [.int 0, .ref (a 1), .ref (a 2), .ref (a 3), .ref (a 4), .ref (a 5), .ref (a 6), .ref (a 7), .ref (a 8), .ref (a 9), .ref (a 10)]) C (by
      show (_ :: _ :: (hb_ (biOf X) b i ++ pic 11 (stS (biOf X)) a z0))[2 + 11 * i]? = _
      rw [show 2 + 11 * i = 11 * i + 1 + 1 by omega, List.getElem?_cons_succ, List.getElem?_cons_succ, List.getElem?_append_right (by rw [hb_len]; omega), hb_len, Nat.sub_self, pic_get (by omega), ha]
      rfl) hpos dX2_init_33 ?_
    refine e_iinc (v := nI (i + 1)) C [(1, .int (nI (i + 1))), (0, .ref h0)] 1 rfl (show nI i + Int32.ofInt 1 = nI (i + 1) from nI_1 i) (by decide) rfl dX2_init_34 ?_
    refine e_goto C 15 (by decide) dX2_init_37 ?_
    have hih := ih (i + 1) (fun j => if j = i then a else b j) (by omega)
    refine Bt.eqw (ws2 := hiW (biOf X) h0 qa (fun j => if j = i then a else b j) (i + 1)) (cs2 := 1 + 11 * (i + 1)) (sl2 := 10 + 276 * (i + 1)) ?_ (by show 1 + 11 * i + 1 + 10 = _; omega) (by show 10 + 276 * i + 11 + 265 = _; omega) ?_
    · have e1 : hb_ (biOf X) b i ++ pic 11 (stS (biOf X)) a z0 = hb_ (biOf X) (fun j => if j = i then a else b j) (i + 1) := by
        rw [hb_, hb_congr (b2 := fun j => if j = i then a else b j) i (fun j hj => by rw [if_neg (by omega)]), if_pos rfl]
      have e2 : va_up (fun j => if j < i then some (b j 0) else none) (nI i).toNatClampNeg (some q) = (fun j => if j < i + 1 then some ((if j = i then a else b j) 0) else none) := by
        rw [nI_clamp (by omega)]
        funext j
        unfold va_up
        by_cases h1 : j = i
        · subst h1; rw [if_pos rfl, if_pos (by omega), if_pos rfl, ha]
        · rw [if_neg h1]
          show (if j < i then some (b j 0) else none) = _
          by_cases h2 : j < i
          · rw [if_pos h2, if_pos (by omega), if_neg h1]
          · rw [if_neg h2, if_neg (by omega)]
      rw [e2]
      exact congrArg (fun z => _ :: _ :: z) e1
    · exact Bt.sub [1, 0] rfl hih
theorem i_hiS {l : Launch} {D : va_G} {I : ClassId × ClassId × ClassId × ClassId} {h0 : Nat} : CtI l D I nH yX2_init cX2_init 2 rmI_hiS h0 [] (.inr (2, [.null, .int 0, .int 0])) (fun a => pic 112 (hiS I) a z0) := by
  refine ct_of (by decide) rfl (Nat.le_of_ble_eq_true rfl) (fun p e s m args below meth c Q A X hX C hN hret => ?_)
  have eI : I = biOf X := by subst hX; rfl
  have es : s = X.2.2.2.2.1 := by subst hX; rfl
  rw [eI] at hret
  rw [es] at hN
  show Bt X 0 [(0, .ref h0)] [] [(h0, .inr (2, [.null, .int 0, .int 0]))] 0 0
  refine e_aload C 0 rfl rfl dX2_init_0 ?_
  refine e_obj C (tg 301 (by decide +kernel) rfl) (Nat.le_of_ble_eq_true rfl) (Nat.le_of_ble_eq_true rfl) dX2_init_1 ?_
  refine e_aload C 0 rfl rfl dX2_init_4 ?_
  refine e_bipush (v := 10) C (by decide) dX2_init_5 ?_
  refine e_newS (N := 10) C (tg 302 (by decide +kernel) rfl) hN.2 (by decide) (by decide) (by decide) (Nat.le_of_ble_eq_true rfl) (Nat.le_of_ble_eq_true rfl) dX2_init_7 (fun qa => ?_)
  show Bt X 10 [(0, .ref h0)] [.ref qa, .ref h0] [(h0, .inr (2, [.null, .int 0, .int 0])), (qa, .inl ((biOf X).2.2.2, 10, .inr (.inr (.inr (.inr (fun _ => none))))))] 1 10
  refine e_putF (fs2 := [.ref qa, .int 0, .int 0]) C rfl inG2 tyX2 tyX2_ok nmX2 0 (by decide) (Nat.le_of_ble_eq_true rfl) rfl (tg 305 (by decide +kernel) rfl) rfl rfl rfl rfl rfl dX2_init_10 ?_
  refine e_iconst (v := 0) C (by decide) dX2_init_13 ?_
  refine e_istore C [(1, .int 0), (0, .ref h0)] rfl (by decide) rfl dX2_init_14 ?_
  refine Bt.sub [1, 0] rfl ?_
  exact hi_loop C hN hret 10 0 (fun _ _ => 0) rfl
