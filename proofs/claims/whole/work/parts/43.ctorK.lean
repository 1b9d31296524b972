/-! ===== LayeredMulticast(): all cells are made ===== -/
def nK : State → Prop := fun U => va_Nw (.methodLinkNest RX10 11 yX4_init "LayeredMulticast") U ∧ va_Nw (.methodLinkNest RX10 21 yX7_init "LayeredMulticast") U ∧ va_Nw (.methodLinkNest RX10 38 yX8_init "LayeredMulticast") U ∧ nH U
theorem nK_ok : NS nK := ⟨fun s U h hW => ⟨va_Nw.warmM hW h.1, va_Nw.warmM hW h.2.1, va_Nw.warmM hW h.2.2.1, nH_ok.1 s U h.2.2.2 hW⟩, fun U g mk a h => ⟨va_Nw.same rfl rfl h.1, va_Nw.same rfl rfl h.2.1, va_Nw.same rfl rfl h.2.2.1, nH_ok.2 U g mk a h.2.2.2⟩⟩
theorem e_getA {X : Bv} {cc : ByteArray} {own : String} {rm : Room} {nL1 pc cs sl : Nat} {lv : List (Nat × Value)} {sk : List Value} {ws w2 : va_W} (C : Bx X cc own rm nL1) {Cn : String} {T : u_T} {N ci ix : Nat} {a : Nat} {fs : List Value} {v : Value} (hc : vwCl[ci]? = some (Cn, T, N)) (hin1 : ∀ w ∈ u_ws Cn T N, w ∈ lw_tg) (k0 : Nat) (hk : k0 < N) (hv : fs[k0]? = some v) (hT : (T k0).1 = Cn) (hlk : Cond.fieldLink own ix Cn (T k0).2.1 (T k0).2.2.1 ∈ lw_tg) (hd : decode cc pc = .ok (.getfield ix, 3)) (k : Bt X (pc + 3) lv (v :: sk) (((a, .inr (ci, fs)) :: ws) ++ w2) cs sl) : Bt X pc lv (.ref a :: sk) (((a, .inr (ci, fs)) :: ws) ++ w2) cs sl := e_get (ws := ws ++ w2) C hc hin1 k0 hk hv hT hlk hd k
def adF (h0 : Nat) (u1 u2 s1 s2 hi tp rd sp fl gr tr rp sa : Nat → Nat) : Nat → Nat := fun k => if k < 1 then h0 else if k < 10 then u1 (k - 1) else if k < 19 then u2 (k - 10) else if k < 30 then s1 (k - 19) else if k < 41 then s2 (k - 30) else if k < 153 then hi (k - 41) else if k < 155 then tp (k - 153) else if k < 156 then rd (k - 155) else if k < 157 then sp (k - 156) else if k < 161 then fl (k - 157) else if k < 165 then gr (k - 161) else if k < 166 then tr (k - 165) else if k < 168 then rp (k - 166) else sa k
theorem adF_u1 {h0 : Nat} {u1 u2 s1 s2 hi tp rd sp fl gr tr rp sa : Nat → Nat} {k : Nat} (h1 : 1 ≤ k) (h2 : k < 10) : adF h0 u1 u2 s1 s2 hi tp rd sp fl gr tr rp sa k = u1 (k - 1) := by
  unfold adF
  rw [if_neg (by omega), if_pos (by omega)]
theorem adF_u2 {h0 : Nat} {u1 u2 s1 s2 hi tp rd sp fl gr tr rp sa : Nat → Nat} {k : Nat} (h1 : 10 ≤ k) (h2 : k < 19) : adF h0 u1 u2 s1 s2 hi tp rd sp fl gr tr rp sa k = u2 (k - 10) := by
  unfold adF
  rw [if_neg (by omega), if_neg (by omega), if_pos (by omega)]
theorem adF_s1 {h0 : Nat} {u1 u2 s1 s2 hi tp rd sp fl gr tr rp sa : Nat → Nat} {k : Nat} (h1 : 19 ≤ k) (h2 : k < 30) : adF h0 u1 u2 s1 s2 hi tp rd sp fl gr tr rp sa k = s1 (k - 19) := by
  unfold adF
  rw [if_neg (by omega), if_neg (by omega), if_neg (by omega), if_pos (by omega)]
theorem adF_s2 {h0 : Nat} {u1 u2 s1 s2 hi tp rd sp fl gr tr rp sa : Nat → Nat} {k : Nat} (h1 : 30 ≤ k) (h2 : k < 41) : adF h0 u1 u2 s1 s2 hi tp rd sp fl gr tr rp sa k = s2 (k - 30) := by
  unfold adF
  rw [if_neg (by omega), if_neg (by omega), if_neg (by omega), if_neg (by omega), if_pos (by omega)]
theorem adF_hi {h0 : Nat} {u1 u2 s1 s2 hi tp rd sp fl gr tr rp sa : Nat → Nat} {k : Nat} (h1 : 41 ≤ k) (h2 : k < 153) : adF h0 u1 u2 s1 s2 hi tp rd sp fl gr tr rp sa k = hi (k - 41) := by
  unfold adF
  rw [if_neg (by omega), if_neg (by omega), if_neg (by omega), if_neg (by omega), if_neg (by omega), if_pos (by omega)]
theorem adF_tp {h0 : Nat} {u1 u2 s1 s2 hi tp rd sp fl gr tr rp sa : Nat → Nat} {k : Nat} (h1 : 153 ≤ k) (h2 : k < 155) : adF h0 u1 u2 s1 s2 hi tp rd sp fl gr tr rp sa k = tp (k - 153) := by
  unfold adF
  rw [if_neg (by omega), if_neg (by omega), if_neg (by omega), if_neg (by omega), if_neg (by omega), if_neg (by omega), if_pos (by omega)]
theorem adF_rd {h0 : Nat} {u1 u2 s1 s2 hi tp rd sp fl gr tr rp sa : Nat → Nat} {k : Nat} (h1 : 155 ≤ k) (h2 : k < 156) : adF h0 u1 u2 s1 s2 hi tp rd sp fl gr tr rp sa k = rd (k - 155) := by
  unfold adF
  rw [if_neg (by omega), if_neg (by omega), if_neg (by omega), if_neg (by omega), if_neg (by omega), if_neg (by omega), if_neg (by omega), if_pos (by omega)]
theorem adF_sp {h0 : Nat} {u1 u2 s1 s2 hi tp rd sp fl gr tr rp sa : Nat → Nat} {k : Nat} (h1 : 156 ≤ k) (h2 : k < 157) : adF h0 u1 u2 s1 s2 hi tp rd sp fl gr tr rp sa k = sp (k - 156) := by
  unfold adF
  rw [if_neg (by omega), if_neg (by omega), if_neg (by omega), if_neg (by omega), if_neg (by omega), if_neg (by omega), if_neg (by omega), if_neg (by omega), if_pos (by omega)]
theorem adF_fl {h0 : Nat} {u1 u2 s1 s2 hi tp rd sp fl gr tr rp sa : Nat → Nat} {k : Nat} (h1 : 157 ≤ k) (h2 : k < 161) : adF h0 u1 u2 s1 s2 hi tp rd sp fl gr tr rp sa k = fl (k - 157) := by
  unfold adF
  rw [if_neg (by omega), if_neg (by omega), if_neg (by omega), if_neg (by omega), if_neg (by omega), if_neg (by omega), if_neg (by omega), if_neg (by omega), if_neg (by omega), if_pos (by omega)]
theorem adF_gr {h0 : Nat} {u1 u2 s1 s2 hi tp rd sp fl gr tr rp sa : Nat → Nat} {k : Nat} (h1 : 161 ≤ k) (h2 : k < 165) : adF h0 u1 u2 s1 s2 hi tp rd sp fl gr tr rp sa k = gr (k - 161) := by
  unfold adF
  rw [if_neg (by omega), if_neg (by omega), if_neg (by omega), if_neg (by omega), if_neg (by omega), if_neg (by omega), if_neg (by omega), if_neg (by omega), if_neg (by omega), if_neg (by omega), if_pos (by omega)]
theorem adF_tr {h0 : Nat} {u1 u2 s1 s2 hi tp rd sp fl gr tr rp sa : Nat → Nat} {k : Nat} (h1 : 165 ≤ k) (h2 : k < 166) : adF h0 u1 u2 s1 s2 hi tp rd sp fl gr tr rp sa k = tr (k - 165) := by
  unfold adF
  rw [if_neg (by omega), if_neg (by omega), if_neg (by omega), if_neg (by omega), if_neg (by omega), if_neg (by omega), if_neg (by omega), if_neg (by omega), if_neg (by omega), if_neg (by omega), if_neg (by omega), if_pos (by omega)]
theorem adF_rp {h0 : Nat} {u1 u2 s1 s2 hi tp rd sp fl gr tr rp sa : Nat → Nat} {k : Nat} (h1 : 166 ≤ k) (h2 : k < 168) : adF h0 u1 u2 s1 s2 hi tp rd sp fl gr tr rp sa k = rp (k - 166) := by
  unfold adF
  rw [if_neg (by omega), if_neg (by omega), if_neg (by omega), if_neg (by omega), if_neg (by omega), if_neg (by omega), if_neg (by omega), if_neg (by omega), if_neg (by omega), if_neg (by omega), if_neg (by omega), if_neg (by omega), if_pos (by omega)]
theorem suSh_alt {I : ClassId × ClassId × ClassId × ClassId} {ad ad2 : Nat → Nat} {k k2 : Nat} {f : Nat → Int32} : ∀ (j : Nat), (j = 0 → ∀ x, x < 8 → ad (k + (x + 1)) = ad2 (k2 + (x + 1))) → suSh I ad j k f = suSh I ad2 j k2 f := by
  intro j h
  match j with
  | 0 =>
    have h := h rfl
    have e1 := h 0 (by omega)
    have e2 := h 1 (by omega)
    have e3 := h 2 (by omega)
    have e4 := h 3 (by omega)
    have e5 := h 4 (by omega)
    have e6 := h 5 (by omega)
    have e7 := h 6 (by omega)
    have e8 := h 7 (by omega)
    simp only [Nat.zero_add, Nat.reduceAdd] at e1 e2 e3 e4 e5 e6 e7 e8
    simp only [suSh, e1, e2, e3, e4, e5, e6, e7, e8]
  | 1 => rfl
  | 2 => rfl
  | 3 => rfl
  | 4 => rfl
  | 5 => rfl
  | 6 => rfl
  | 7 => rfl
  | n + 8 => rfl
abbrev va_E_inl (x : ClassId × vp_A) : va_E := .inl x
def q0K : St := st z0 0 12 (-2)
theorem q0K_at {k : Nat} (h : 0 < k) : q0K.1 k = fun _ => 0 := by
  have : ¬ k = 0 := by omega
  simp [q0K, st, rw_, this, z0]
theorem pic_glue {n m : Nat} {sh sh2 : Sh} {ad a2 : Nat → Nat} {q q2 : St} (h : ∀ k, k < m → (a2 k, sh2 a2 k (q2.1 k) q2.2) = (ad (n + k), sh ad (n + k) (q.1 (n + k)) q.2)) : pic n sh ad q ++ pic m sh2 a2 q2 = pic (n + m) sh ad q := by
  apply List.ext_getElem?
  intro t
  by_cases h1 : t < n
  · rw [List.getElem?_append_left (by rw [pic_len]; exact h1), pic_get h1, pic_get (by omega)]
  · rw [List.getElem?_append_right (by rw [pic_len]; omega), pic_len]
    by_cases h2 : t < n + m
    · rw [pic_get (by omega), pic_get h2, h (t - n) (by omega), show n + (t - n) = t by omega]
    · rw [List.getElem?_eq_none (by rw [pic_len]; omega), List.getElem?_eq_none (by rw [pic_len]; omega)]
theorem gl_u1 {I : ClassId × ClassId × ClassId × ClassId} {h0 : Nat} {u1 u2 s1 s2 hi tp rd sp fl gr tr rp sa : Nat → Nat} : pic 1 (shK I) (adF h0 u1 u2 s1 s2 hi tp rd sp fl gr tr rp sa) q0K ++ pic 9 (suS I) u1 z0 = pic 10 (shK I) (adF h0 u1 u2 s1 s2 hi tp rd sp fl gr tr rp sa) q0K := by
  refine pic_glue (fun k hk => ?_)
  rw [show (adF h0 u1 u2 s1 s2 hi tp rd sp fl gr tr rp sa) (1 + k) = u1 (1 + k - 1) from adF_u1 (by omega) (by omega), q0K_at (by omega), show 1 + k - 1 = k by omega]
  refine congrArg (fun e => (u1 k, e)) ?_
  unfold shK
  rw [if_neg (by omega), if_pos (by omega), show 1 + k - 1 = k by omega]
  refine suSh_alt k (fun h x hx => ?_)
  subst h
  rw [show (adF h0 u1 u2 s1 s2 hi tp rd sp fl gr tr rp sa) (1 + 0 + (x + 1)) = u1 (1 + 0 + (x + 1) - 1) from adF_u1 (by omega) (by omega), show 1 + 0 + (x + 1) - 1 = 0 + (x + 1) by omega]
theorem gl_u2 {I : ClassId × ClassId × ClassId × ClassId} {h0 : Nat} {u1 u2 s1 s2 hi tp rd sp fl gr tr rp sa : Nat → Nat} : pic 10 (shK I) (adF h0 u1 u2 s1 s2 hi tp rd sp fl gr tr rp sa) q0K ++ pic 9 (suS I) u2 z0 = pic 19 (shK I) (adF h0 u1 u2 s1 s2 hi tp rd sp fl gr tr rp sa) q0K := by
  refine pic_glue (fun k hk => ?_)
  rw [show (adF h0 u1 u2 s1 s2 hi tp rd sp fl gr tr rp sa) (10 + k) = u2 (10 + k - 10) from adF_u2 (by omega) (by omega), q0K_at (by omega), show 10 + k - 10 = k by omega]
  refine congrArg (fun e => (u2 k, e)) ?_
  unfold shK
  rw [if_neg (by omega), if_neg (by omega), if_pos (by omega), show 10 + k - 10 = k by omega]
  refine suSh_alt k (fun h x hx => ?_)
  subst h
  rw [show (adF h0 u1 u2 s1 s2 hi tp rd sp fl gr tr rp sa) (10 + 0 + (x + 1)) = u2 (10 + 0 + (x + 1) - 10) from adF_u2 (by omega) (by omega), show 10 + 0 + (x + 1) - 10 = 0 + (x + 1) by omega]
theorem gl_s1 {I : ClassId × ClassId × ClassId × ClassId} {h0 : Nat} {u1 u2 s1 s2 hi tp rd sp fl gr tr rp sa : Nat → Nat} : pic 19 (shK I) (adF h0 u1 u2 s1 s2 hi tp rd sp fl gr tr rp sa) q0K ++ pic 11 (stS I) s1 z0 = pic 30 (shK I) (adF h0 u1 u2 s1 s2 hi tp rd sp fl gr tr rp sa) q0K := by
  refine pic_glue (fun k hk => ?_)
  rw [show (adF h0 u1 u2 s1 s2 hi tp rd sp fl gr tr rp sa) (19 + k) = s1 (19 + k - 19) from adF_s1 (by omega) (by omega), q0K_at (by omega), show 19 + k - 19 = k by omega]
  refine congrArg (fun e => (s1 k, e)) ?_
  unfold shK
  rw [if_neg (by omega), if_neg (by omega), if_neg (by omega), if_pos (by omega), show 19 + k - 19 = k by omega]
  refine stSh_alt k (fun h x hx => ?_)
  subst h
  rw [show (adF h0 u1 u2 s1 s2 hi tp rd sp fl gr tr rp sa) (19 + 0 + (x + 1)) = s1 (19 + 0 + (x + 1) - 19) from adF_s1 (by omega) (by omega), show 19 + 0 + (x + 1) - 19 = 0 + (x + 1) by omega]
theorem gl_s2 {I : ClassId × ClassId × ClassId × ClassId} {h0 : Nat} {u1 u2 s1 s2 hi tp rd sp fl gr tr rp sa : Nat → Nat} : pic 30 (shK I) (adF h0 u1 u2 s1 s2 hi tp rd sp fl gr tr rp sa) q0K ++ pic 11 (stS I) s2 z0 = pic 41 (shK I) (adF h0 u1 u2 s1 s2 hi tp rd sp fl gr tr rp sa) q0K := by
  refine pic_glue (fun k hk => ?_)
  rw [show (adF h0 u1 u2 s1 s2 hi tp rd sp fl gr tr rp sa) (30 + k) = s2 (30 + k - 30) from adF_s2 (by omega) (by omega), q0K_at (by omega), show 30 + k - 30 = k by omega]
  refine congrArg (fun e => (s2 k, e)) ?_
  unfold shK
  rw [if_neg (by omega), if_neg (by omega), if_neg (by omega), if_neg (by omega), if_pos (by omega), show 30 + k - 30 = k by omega]
  refine stSh_alt k (fun h x hx => ?_)
  subst h
  rw [show (adF h0 u1 u2 s1 s2 hi tp rd sp fl gr tr rp sa) (30 + 0 + (x + 1)) = s2 (30 + 0 + (x + 1) - 30) from adF_s2 (by omega) (by omega), show 30 + 0 + (x + 1) - 30 = 0 + (x + 1) by omega]
theorem gl_hi {I : ClassId × ClassId × ClassId × ClassId} {h0 : Nat} {u1 u2 s1 s2 hi tp rd sp fl gr tr rp sa : Nat → Nat} : pic 41 (shK I) (adF h0 u1 u2 s1 s2 hi tp rd sp fl gr tr rp sa) q0K ++ pic 112 (hiS I) hi z0 = pic 153 (shK I) (adF h0 u1 u2 s1 s2 hi tp rd sp fl gr tr rp sa) q0K := by
  refine pic_glue (fun k hk => ?_)
  rw [show (adF h0 u1 u2 s1 s2 hi tp rd sp fl gr tr rp sa) (41 + k) = hi (41 + k - 41) from adF_hi (by omega) (by omega), q0K_at (by omega), show 41 + k - 41 = k by omega]
  refine congrArg (fun e => (hi k, e)) ?_
  show hiS I hi k _ _ = shK I _ (41 + k) _ _
  rcases (show k = 0 ∨ k = 1 ∨ 2 ≤ k by omega) with rfl | rfl | h2
  · rfl
  · have : (fun i => if i < 10 then some (hi (2 + 11 * i)) else none) = (fun i => if i < 10 then some ((adF h0 u1 u2 s1 s2 hi tp rd sp fl gr tr rp sa) (43 + 11 * i)) else none) := by
      funext i
      by_cases h10 : i < 10
      · rw [if_pos h10, if_pos h10, show (adF h0 u1 u2 s1 s2 hi tp rd sp fl gr tr rp sa) (43 + 11 * i) = hi (43 + 11 * i - 41) from adF_hi (by omega) (by omega), show 43 + 11 * i - 41 = 2 + 11 * i by omega]
      · rw [if_neg h10, if_neg h10]
    show va_E_inl (I.2.2.2, 10, .inr (.inr (.inr (.inr (fun i => if i < 10 then some (hi (2 + 11 * i)) else none))))) = va_E_inl (I.2.2.2, 10, .inr (.inr (.inr (.inr (fun i => if i < 10 then some ((adF h0 u1 u2 s1 s2 hi tp rd sp fl gr tr rp sa) (43 + 11 * i)) else none)))))
    rw [this]
  · unfold hiS shK
    rw [if_neg (by omega), if_neg (by omega), if_neg (by omega), if_neg (by omega), if_neg (by omega), if_neg (by omega), if_neg (by omega), if_neg (by omega), if_neg (by omega), if_pos (by omega), show (41 + k - 43) % 11 = (k - 2) % 11 by omega]
    refine stSh_alt _ (fun h x hx => ?_)
    rw [show (adF h0 u1 u2 s1 s2 hi tp rd sp fl gr tr rp sa) (41 + k + (x + 1)) = hi (41 + k + (x + 1) - 41) from adF_hi (by omega) (by omega), show 41 + k + (x + 1) - 41 = k + (x + 1) by omega]
theorem gl_tp {I : ClassId × ClassId × ClassId × ClassId} {h0 : Nat} {u1 u2 s1 s2 hi tp rd sp fl gr tr rp sa : Nat → Nat} : pic 153 (shK I) (adF h0 u1 u2 s1 s2 hi tp rd sp fl gr tr rp sa) q0K ++ pic 2 (tpS I) tp z0 = pic 155 (shK I) (adF h0 u1 u2 s1 s2 hi tp rd sp fl gr tr rp sa) q0K := by
  refine pic_glue (fun k hk => ?_)
  rw [show (adF h0 u1 u2 s1 s2 hi tp rd sp fl gr tr rp sa) (153 + k) = tp (153 + k - 153) from adF_tp (by omega) (by omega), q0K_at (by omega), show 153 + k - 153 = k by omega]
  refine congrArg (fun e => (tp k, e)) ?_
  rcases (show k = 0 ∨ k = 1 by omega) with rfl | rfl <;> rfl
theorem gl_rd {I : ClassId × ClassId × ClassId × ClassId} {h0 : Nat} {u1 u2 s1 s2 hi tp rd sp fl gr tr rp sa : Nat → Nat} : pic 155 (shK I) (adF h0 u1 u2 s1 s2 hi tp rd sp fl gr tr rp sa) q0K ++ pic 1 (rdS I ((tp 0)) ((u2 0))) rd z0 = pic 156 (shK I) (adF h0 u1 u2 s1 s2 hi tp rd sp fl gr tr rp sa) q0K := by
  refine pic_glue (fun k hk => ?_)
  rw [show (adF h0 u1 u2 s1 s2 hi tp rd sp fl gr tr rp sa) (155 + k) = rd (155 + k - 155) from adF_rd (by omega) (by omega), q0K_at (by omega), show 155 + k - 155 = k by omega]
  refine congrArg (fun e => (rd k, e)) ?_
  obtain rfl : k = 0 := by omega
  rfl
theorem gl_sp {I : ClassId × ClassId × ClassId × ClassId} {h0 : Nat} {u1 u2 s1 s2 hi tp rd sp fl gr tr rp sa : Nat → Nat} : pic 156 (shK I) (adF h0 u1 u2 s1 s2 hi tp rd sp fl gr tr rp sa) q0K ++ pic 1 (spS I ((u1 0)) ((s1 0))) sp z0 = pic 157 (shK I) (adF h0 u1 u2 s1 s2 hi tp rd sp fl gr tr rp sa) q0K := by
  refine pic_glue (fun k hk => ?_)
  rw [show (adF h0 u1 u2 s1 s2 hi tp rd sp fl gr tr rp sa) (156 + k) = sp (156 + k - 156) from adF_sp (by omega) (by omega), q0K_at (by omega), show 156 + k - 156 = k by omega]
  refine congrArg (fun e => (sp k, e)) ?_
  obtain rfl : k = 0 := by omega
  rfl
theorem gl_fl {I : ClassId × ClassId × ClassId × ClassId} {h0 : Nat} {u1 u2 s1 s2 hi tp rd sp fl gr tr rp sa : Nat → Nat} : pic 157 (shK I) (adF h0 u1 u2 s1 s2 hi tp rd sp fl gr tr rp sa) q0K ++ pic 4 (flS I ((u1 0)) ((s1 0)) ((sp 0))) fl z0 = pic 161 (shK I) (adF h0 u1 u2 s1 s2 hi tp rd sp fl gr tr rp sa) q0K := by
  refine pic_glue (fun k hk => ?_)
  rw [show (adF h0 u1 u2 s1 s2 hi tp rd sp fl gr tr rp sa) (157 + k) = fl (157 + k - 157) from adF_fl (by omega) (by omega), q0K_at (by omega), show 157 + k - 157 = k by omega]
  refine congrArg (fun e => (fl k, e)) ?_
  rcases (show k = 0 ∨ k = 1 ∨ k = 2 ∨ k = 3 by omega) with rfl | rfl | rfl | rfl <;> rfl
theorem gl_gr {I : ClassId × ClassId × ClassId × ClassId} {h0 : Nat} {u1 u2 s1 s2 hi tp rd sp fl gr tr rp sa : Nat → Nat} : pic 161 (shK I) (adF h0 u1 u2 s1 s2 hi tp rd sp fl gr tr rp sa) q0K ++ pic 4 (grS I ((u1 0)) ((s1 0)) ((sp 0))) gr z0 = pic 165 (shK I) (adF h0 u1 u2 s1 s2 hi tp rd sp fl gr tr rp sa) q0K := by
  refine pic_glue (fun k hk => ?_)
  rw [show (adF h0 u1 u2 s1 s2 hi tp rd sp fl gr tr rp sa) (161 + k) = gr (161 + k - 161) from adF_gr (by omega) (by omega), q0K_at (by omega), show 161 + k - 161 = k by omega]
  refine congrArg (fun e => (gr k, e)) ?_
  rcases (show k = 0 ∨ k = 1 ∨ k = 2 ∨ k = 3 by omega) with rfl | rfl | rfl | rfl <;> rfl
theorem gl_tr {I : ClassId × ClassId × ClassId × ClassId} {h0 : Nat} {u1 u2 s1 s2 hi tp rd sp fl gr tr rp sa : Nat → Nat} : pic 165 (shK I) (adF h0 u1 u2 s1 s2 hi tp rd sp fl gr tr rp sa) q0K ++ pic 1 (trS I ((u1 0)) ((s1 0)) ((sp 0)) ((fl 0)) ((gr 0))) tr z0 = pic 166 (shK I) (adF h0 u1 u2 s1 s2 hi tp rd sp fl gr tr rp sa) q0K := by
  refine pic_glue (fun k hk => ?_)
  rw [show (adF h0 u1 u2 s1 s2 hi tp rd sp fl gr tr rp sa) (165 + k) = tr (165 + k - 165) from adF_tr (by omega) (by omega), q0K_at (by omega), show 165 + k - 165 = k by omega]
  refine congrArg (fun e => (tr k, e)) ?_
  obtain rfl : k = 0 := by omega
  rfl
theorem gl_rp {I : ClassId × ClassId × ClassId × ClassId} {h0 : Nat} {u1 u2 s1 s2 hi tp rd sp fl gr tr rp sa : Nat → Nat} : pic 166 (shK I) (adF h0 u1 u2 s1 s2 hi tp rd sp fl gr tr rp sa) q0K ++ pic 2 (rpS I ((u1 0)) ((s1 0)) ((fl 0))) rp z0 = pic 168 (shK I) (adF h0 u1 u2 s1 s2 hi tp rd sp fl gr tr rp sa) q0K := by
  refine pic_glue (fun k hk => ?_)
  rw [show (adF h0 u1 u2 s1 s2 hi tp rd sp fl gr tr rp sa) (166 + k) = rp (166 + k - 166) from adF_rp (by omega) (by omega), q0K_at (by omega), show 166 + k - 166 = k by omega]
  refine congrArg (fun e => (rp k, e)) ?_
  rcases (show k = 0 ∨ k = 1 by omega) with rfl | rfl <;> rfl
theorem picK_1 {I : ClassId × ClassId × ClassId × ClassId} {h0 : Nat} {u1 u2 s1 s2 hi tp rd sp fl gr tr rp sa : Nat → Nat} : [(h0, .inr (10, [.ref (u1 0), .ref (u2 0), .ref (s1 0), .ref (s2 0), .ref (hi 0), .ref (tp 0), .ref (rd 0), .ref (sp 0), .ref (fl 0), .ref (gr 0), .ref (tr 0), .ref (rp 0), .int (-2)]))] = pic 1 (shK I) (adF h0 u1 u2 s1 s2 hi tp rd sp fl gr tr rp sa) q0K := rfl
theorem picK_eq {I : ClassId × ClassId × ClassId × ClassId} {h0 : Nat} {u1 u2 s1 s2 hi tp rd sp fl gr tr rp sa : Nat → Nat} : (h0, .inr (10, [.ref (u1 0), .ref (u2 0), .ref (s1 0), .ref (s2 0), .ref (hi 0), .ref (tp 0), .ref (rd 0), .ref (sp 0), .ref (fl 0), .ref (gr 0), .ref (tr 0), .ref (rp 0), .int (-2)])) :: (((((((((((([] ++ pic 9 (suS I) u1 z0) ++ pic 9 (suS I) u2 z0) ++ pic 11 (stS I) s1 z0) ++ pic 11 (stS I) s2 z0) ++ pic 112 (hiS I) hi z0) ++ pic 2 (tpS I) tp z0) ++ pic 1 (rdS I ((tp 0)) ((u2 0))) rd z0) ++ pic 1 (spS I ((u1 0)) ((s1 0))) sp z0) ++ pic 4 (flS I ((u1 0)) ((s1 0)) ((sp 0))) fl z0) ++ pic 4 (grS I ((u1 0)) ((s1 0)) ((sp 0))) gr z0) ++ pic 1 (trS I ((u1 0)) ((s1 0)) ((sp 0)) ((fl 0)) ((gr 0))) tr z0) ++ pic 2 (rpS I ((u1 0)) ((s1 0)) ((fl 0))) rp z0) = pic 168 (shK I) (adF h0 u1 u2 s1 s2 hi tp rd sp fl gr tr rp sa) q0K := by
  show (((((((((((([(h0, .inr (10, [.ref (u1 0), .ref (u2 0), .ref (s1 0), .ref (s2 0), .ref (hi 0), .ref (tp 0), .ref (rd 0), .ref (sp 0), .ref (fl 0), .ref (gr 0), .ref (tr 0), .ref (rp 0), .int (-2)]))] ++ pic 9 (suS I) u1 z0) ++ pic 9 (suS I) u2 z0) ++ pic 11 (stS I) s1 z0) ++ pic 11 (stS I) s2 z0) ++ pic 112 (hiS I) hi z0) ++ pic 2 (tpS I) tp z0) ++ pic 1 (rdS I ((tp 0)) ((u2 0))) rd z0) ++ pic 1 (spS I ((u1 0)) ((s1 0))) sp z0) ++ pic 4 (flS I ((u1 0)) ((s1 0)) ((sp 0))) fl z0) ++ pic 4 (grS I ((u1 0)) ((s1 0)) ((sp 0))) gr z0) ++ pic 1 (trS I ((u1 0)) ((s1 0)) ((sp 0)) ((fl 0)) ((gr 0))) tr z0) ++ pic 2 (rpS I ((u1 0)) ((s1 0)) ((fl 0))) rp z0) = _
  rw [picK_1 (sa := sa), gl_u1, gl_u2, gl_s1, gl_s2, gl_hi, gl_tp, gl_rd, gl_sp, gl_fl, gl_gr, gl_tr, gl_rp]
abbrev rmI_K : Room := { frames := 10, cells := 400, slots := 12000, locals := 300 }
theorem mk_K {X : Bv} (C : Bx X cX10_init RX10 rmI_K 1) {h0 : Nat} (hN : nK X.2.2.2.2.1) (k : ∀ (u1 u2 s1 s2 hi tp rd sp fl gr tr rp : Nat → Nat), Bt X 214 [(0, .ref h0)] [] ((h0, .inr (10, [.ref (u1 0), .ref (u2 0), .ref (s1 0), .ref (s2 0), .ref (hi 0), .ref (tp 0), .ref (rd 0), .ref (sp 0), .ref (fl 0), .ref (gr 0), .ref (tr 0), .ref (rp 0), .int (-2)])) :: (((((((((((([] ++ pic 9 (suS (biOf X)) u1 z0) ++ pic 9 (suS (biOf X)) u2 z0) ++ pic 11 (stS (biOf X)) s1 z0) ++ pic 11 (stS (biOf X)) s2 z0) ++ pic 112 (hiS (biOf X)) hi z0) ++ pic 2 (tpS (biOf X)) tp z0) ++ pic 1 (rdS (biOf X) ((tp 0)) ((u2 0))) rd z0) ++ pic 1 (spS (biOf X) ((u1 0)) ((s1 0))) sp z0) ++ pic 4 (flS (biOf X) ((u1 0)) ((s1 0)) ((sp 0))) fl z0) ++ pic 4 (grS (biOf X) ((u1 0)) ((s1 0)) ((sp 0))) gr z0) ++ pic 1 (trS (biOf X) ((u1 0)) ((s1 0)) ((sp 0)) ((fl 0)) ((gr 0))) tr z0) ++ pic 2 (rpS (biOf X) ((u1 0)) ((s1 0)) ((fl 0))) rp z0)) 167 5990) : Bt X 0 [(0, .ref h0)] [] [(h0, .inr (10, [.null, .null, .null, .null, .null, .null, .null, .null, .null, .null, .null, .null, .int 0]))] 0 0 := by
  refine e_aload C 0 rfl rfl dX10_init_0 ?_
  refine e_obj C (tg 140 (by decide +kernel) rfl) (Nat.le_of_ble_eq_true rfl) (Nat.le_of_ble_eq_true rfl) dX10_init_1 ?_
  refine e_aload C 0 rfl rfl dX10_init_4 ?_
  refine e_new (ci := 4) (fs := [.int 0, .int 0, .int 0, .int 0, .null, .null, .null, .null, .null, .null, .null, .null]) C rfl inG4 tyX4 tyX4_ok (tg 143 (by decide +kernel) rfl) (tg 144 (by decide +kernel) rfl) (tg 116 (by decide +kernel) rfl) (fun j hj => by rcases (show j = 0 ∨ j = 1 ∨ j = 2 ∨ j = 3 ∨ j = 4 ∨ j = 5 ∨ j = 6 ∨ j = 7 ∨ j = 8 ∨ j = 9 ∨ j = 10 ∨ j = 11 by omega) with rfl | rfl | rfl | rfl | rfl | rfl | rfl | rfl | rfl | rfl | rfl | rfl <;> rfl) (Nat.le_of_ble_eq_true rfl) (Nat.le_of_ble_eq_true rfl) dX10_init_5 (fun q_u1 => ?_)
  refine e_dup C rfl dX10_init_8 ?_
  refine e_ctorN (as := []) C i_suS nT_ok trivial hN.1 (tg 147 (by decide +kernel) rfl) (tg 116 (by decide +kernel) rfl) (tg 146 (by decide +kernel) rfl) rfl ⟨by decide, by decide, by show Option.map _ (parseMethodDescriptor yX4_init.desc) = some 0; decide +kernel⟩ ⟨Nat.le_of_ble_eq_true rfl, Nat.le_of_ble_eq_true rfl⟩ ⟨Nat.le_of_ble_eq_true rfl, Nat.le_of_ble_eq_true rfl⟩ (Nat.le_of_ble_eq_true rfl) rfl dX10_init_9 (fun u1 e_u1 => ?_)
  subst e_u1
  refine Bt.eqw (ws2 := (h0, .inr (10, [.null, .null, .null, .null, .null, .null, .null, .null, .null, .null, .null, .null, .int 0])) :: ([] ++ pic 9 (suS (biOf X)) u1 z0)) (cs2 := 9) (sl2 := 440) rfl rfl rfl ?_
  refine e_putF (fs2 := [.ref (u1 0), .null, .null, .null, .null, .null, .null, .null, .null, .null, .null, .null, .int 0]) C rfl inG10 tyX10 tyX10_ok nmX10 0 (by decide) (Nat.le_of_ble_eq_true rfl) rfl (tg 500 (by decide +kernel) rfl) rfl rfl rfl rfl rfl dX10_init_12 ?_
  refine e_aload C 0 rfl rfl dX10_init_15 ?_
  refine e_new (ci := 4) (fs := [.int 0, .int 0, .int 0, .int 0, .null, .null, .null, .null, .null, .null, .null, .null]) C rfl inG4 tyX4 tyX4_ok (tg 143 (by decide +kernel) rfl) (tg 144 (by decide +kernel) rfl) (tg 116 (by decide +kernel) rfl) (fun j hj => by rcases (show j = 0 ∨ j = 1 ∨ j = 2 ∨ j = 3 ∨ j = 4 ∨ j = 5 ∨ j = 6 ∨ j = 7 ∨ j = 8 ∨ j = 9 ∨ j = 10 ∨ j = 11 by omega) with rfl | rfl | rfl | rfl | rfl | rfl | rfl | rfl | rfl | rfl | rfl | rfl <;> rfl) (Nat.le_of_ble_eq_true rfl) (Nat.le_of_ble_eq_true rfl) dX10_init_16 (fun q_u2 => ?_)
  refine e_dup C rfl dX10_init_19 ?_
  refine e_ctorN (as := []) C i_suS nT_ok trivial hN.1 (tg 147 (by decide +kernel) rfl) (tg 116 (by decide +kernel) rfl) (tg 146 (by decide +kernel) rfl) rfl ⟨by decide, by decide, by show Option.map _ (parseMethodDescriptor yX4_init.desc) = some 0; decide +kernel⟩ ⟨Nat.le_of_ble_eq_true rfl, Nat.le_of_ble_eq_true rfl⟩ ⟨Nat.le_of_ble_eq_true rfl, Nat.le_of_ble_eq_true rfl⟩ (Nat.le_of_ble_eq_true rfl) rfl dX10_init_20 (fun u2 e_u2 => ?_)
  subst e_u2
  refine Bt.eqw (ws2 := (h0, .inr (10, [.ref (u1 0), .null, .null, .null, .null, .null, .null, .null, .null, .null, .null, .null, .int 0])) :: (([] ++ pic 9 (suS (biOf X)) u1 z0) ++ pic 9 (suS (biOf X)) u2 z0)) (cs2 := 18) (sl2 := 880) rfl rfl rfl ?_
  refine e_putF (fs2 := [.ref (u1 0), .ref (u2 0), .null, .null, .null, .null, .null, .null, .null, .null, .null, .null, .int 0]) C rfl inG10 tyX10 tyX10_ok nmX10 1 (by decide) (Nat.le_of_ble_eq_true rfl) rfl (tg 501 (by decide +kernel) rfl) rfl rfl rfl rfl rfl dX10_init_23 ?_
  refine e_aload C 0 rfl rfl dX10_init_26 ?_
  refine e_new (ci := 7) (fs := [.int 0, .null, .null, .null, .null, .null, .null, .null, .null, .null, .null]) C rfl inG7 tyX7 tyX7_ok (tg 218 (by decide +kernel) rfl) (tg 219 (by decide +kernel) rfl) (tg 117 (by decide +kernel) rfl) (fun j hj => by rcases (show j = 0 ∨ j = 1 ∨ j = 2 ∨ j = 3 ∨ j = 4 ∨ j = 5 ∨ j = 6 ∨ j = 7 ∨ j = 8 ∨ j = 9 ∨ j = 10 by omega) with rfl | rfl | rfl | rfl | rfl | rfl | rfl | rfl | rfl | rfl | rfl <;> rfl) (Nat.le_of_ble_eq_true rfl) (Nat.le_of_ble_eq_true rfl) dX10_init_27 (fun q_s1 => ?_)
  refine e_dup C rfl dX10_init_30 ?_
  refine e_ctorN (as := []) C i_stS nT_ok trivial hN.2.1 (tg 222 (by decide +kernel) rfl) (tg 117 (by decide +kernel) rfl) (tg 221 (by decide +kernel) rfl) rfl ⟨by decide, by decide, by show Option.map _ (parseMethodDescriptor yX7_init.desc) = some 0; decide +kernel⟩ ⟨Nat.le_of_ble_eq_true rfl, Nat.le_of_ble_eq_true rfl⟩ ⟨Nat.le_of_ble_eq_true rfl, Nat.le_of_ble_eq_true rfl⟩ (Nat.le_of_ble_eq_true rfl) rfl dX10_init_31 (fun s1 e_s1 => ?_)
  subst e_s1
  refine Bt.eqw (ws2 := (h0, .inr (10, [.ref (u1 0), .ref (u2 0), .null, .null, .null, .null, .null, .null, .null, .null, .null, .null, .int 0])) :: ((([] ++ pic 9 (suS (biOf X)) u1 z0) ++ pic 9 (suS (biOf X)) u2 z0) ++ pic 11 (stS (biOf X)) s1 z0)) (cs2 := 29) (sl2 := 1156) rfl rfl rfl ?_
  refine e_putF (fs2 := [.ref (u1 0), .ref (u2 0), .ref (s1 0), .null, .null, .null, .null, .null, .null, .null, .null, .null, .int 0]) C rfl inG10 tyX10 tyX10_ok nmX10 2 (by decide) (Nat.le_of_ble_eq_true rfl) rfl (tg 502 (by decide +kernel) rfl) rfl rfl rfl rfl rfl dX10_init_34 ?_
  refine e_aload C 0 rfl rfl dX10_init_37 ?_
  refine e_new (ci := 7) (fs := [.int 0, .null, .null, .null, .null, .null, .null, .null, .null, .null, .null]) C rfl inG7 tyX7 tyX7_ok (tg 218 (by decide +kernel) rfl) (tg 219 (by decide +kernel) rfl) (tg 117 (by decide +kernel) rfl) (fun j hj => by rcases (show j = 0 ∨ j = 1 ∨ j = 2 ∨ j = 3 ∨ j = 4 ∨ j = 5 ∨ j = 6 ∨ j = 7 ∨ j = 8 ∨ j = 9 ∨ j = 10 by omega) with rfl | rfl | rfl | rfl | rfl | rfl | rfl | rfl | rfl | rfl | rfl <;> rfl) (Nat.le_of_ble_eq_true rfl) (Nat.le_of_ble_eq_true rfl) dX10_init_38 (fun q_s2 => ?_)
  refine e_dup C rfl dX10_init_41 ?_
  refine e_ctorN (as := []) C i_stS nT_ok trivial hN.2.1 (tg 222 (by decide +kernel) rfl) (tg 117 (by decide +kernel) rfl) (tg 221 (by decide +kernel) rfl) rfl ⟨by decide, by decide, by show Option.map _ (parseMethodDescriptor yX7_init.desc) = some 0; decide +kernel⟩ ⟨Nat.le_of_ble_eq_true rfl, Nat.le_of_ble_eq_true rfl⟩ ⟨Nat.le_of_ble_eq_true rfl, Nat.le_of_ble_eq_true rfl⟩ (Nat.le_of_ble_eq_true rfl) rfl dX10_init_42 (fun s2 e_s2 => ?_)
  subst e_s2
  refine Bt.eqw (ws2 := (h0, .inr (10, [.ref (u1 0), .ref (u2 0), .ref (s1 0), .null, .null, .null, .null, .null, .null, .null, .null, .null, .int 0])) :: (((([] ++ pic 9 (suS (biOf X)) u1 z0) ++ pic 9 (suS (biOf X)) u2 z0) ++ pic 11 (stS (biOf X)) s1 z0) ++ pic 11 (stS (biOf X)) s2 z0)) (cs2 := 40) (sl2 := 1432) rfl rfl rfl ?_
  refine e_putF (fs2 := [.ref (u1 0), .ref (u2 0), .ref (s1 0), .ref (s2 0), .null, .null, .null, .null, .null, .null, .null, .null, .int 0]) C rfl inG10 tyX10 tyX10_ok nmX10 3 (by decide) (Nat.le_of_ble_eq_true rfl) rfl (tg 503 (by decide +kernel) rfl) rfl rfl rfl rfl rfl dX10_init_45 ?_
  refine e_aload C 0 rfl rfl dX10_init_48 ?_
  refine e_new (ci := 2) (fs := [.null, .int 0, .int 0]) C rfl inG2 tyX2 tyX2_ok (tg 296 (by decide +kernel) rfl) (tg 297 (by decide +kernel) rfl) (tg 118 (by decide +kernel) rfl) (fun j hj => by rcases (show j = 0 ∨ j = 1 ∨ j = 2 by omega) with rfl | rfl | rfl <;> rfl) (Nat.le_of_ble_eq_true rfl) (Nat.le_of_ble_eq_true rfl) dX10_init_49 (fun q_hi => ?_)
  refine e_dup C rfl dX10_init_52 ?_
  refine e_ctor (as := []) C i_hiS nH_ok hN.2.2.2 (tg 298 (by decide +kernel) rfl) (tg 300 (by decide +kernel) rfl) (tg 118 (by decide +kernel) rfl) (tg 299 (by decide +kernel) rfl) rfl ⟨by decide, by decide, by show Option.map _ (parseMethodDescriptor yX2_init.desc) = some 0; decide +kernel⟩ ⟨Nat.le_of_ble_eq_true rfl, Nat.le_of_ble_eq_true rfl⟩ ⟨Nat.le_of_ble_eq_true rfl, Nat.le_of_ble_eq_true rfl⟩ (Nat.le_of_ble_eq_true rfl) rfl dX10_init_53 (fun hi e_hi => ?_)
  subst e_hi
  refine Bt.eqw (ws2 := (h0, .inr (10, [.ref (u1 0), .ref (u2 0), .ref (s1 0), .ref (s2 0), .null, .null, .null, .null, .null, .null, .null, .null, .int 0])) :: ((((([] ++ pic 9 (suS (biOf X)) u1 z0) ++ pic 9 (suS (biOf X)) u2 z0) ++ pic 11 (stS (biOf X)) s1 z0) ++ pic 11 (stS (biOf X)) s2 z0) ++ pic 112 (hiS (biOf X)) hi z0)) (cs2 := 152) (sl2 := 4205) rfl rfl rfl ?_
  refine e_putF (fs2 := [.ref (u1 0), .ref (u2 0), .ref (s1 0), .ref (s2 0), .ref (hi 0), .null, .null, .null, .null, .null, .null, .null, .int 0]) C rfl inG10 tyX10 tyX10_ok nmX10 4 (by decide) (Nat.le_of_ble_eq_true rfl) rfl (tg 504 (by decide +kernel) rfl) rfl rfl rfl rfl rfl dX10_init_56 ?_
  refine e_aload C 0 rfl rfl dX10_init_59 ?_
  refine e_new (ci := 8) (fs := [.null, .int 0]) C rfl inG8 tyX8 tyX8_ok (tg 316 (by decide +kernel) rfl) (tg 317 (by decide +kernel) rfl) (tg 119 (by decide +kernel) rfl) (fun j hj => by rcases (show j = 0 ∨ j = 1 by omega) with rfl | rfl <;> rfl) (Nat.le_of_ble_eq_true rfl) (Nat.le_of_ble_eq_true rfl) dX10_init_60 (fun q_tp => ?_)
  refine e_dup C rfl dX10_init_63 ?_
  refine e_ctorN (as := []) C i_tpS nT_ok trivial hN.2.2.1 (tg 320 (by decide +kernel) rfl) (tg 119 (by decide +kernel) rfl) (tg 319 (by decide +kernel) rfl) rfl ⟨by decide, by decide, by show Option.map _ (parseMethodDescriptor yX8_init.desc) = some 0; decide +kernel⟩ ⟨Nat.le_of_ble_eq_true rfl, Nat.le_of_ble_eq_true rfl⟩ ⟨Nat.le_of_ble_eq_true rfl, Nat.le_of_ble_eq_true rfl⟩ (Nat.le_of_ble_eq_true rfl) rfl dX10_init_64 (fun tp e_tp => ?_)
  subst e_tp
  refine Bt.eqw (ws2 := (h0, .inr (10, [.ref (u1 0), .ref (u2 0), .ref (s1 0), .ref (s2 0), .ref (hi 0), .null, .null, .null, .null, .null, .null, .null, .int 0])) :: (((((([] ++ pic 9 (suS (biOf X)) u1 z0) ++ pic 9 (suS (biOf X)) u2 z0) ++ pic 11 (stS (biOf X)) s1 z0) ++ pic 11 (stS (biOf X)) s2 z0) ++ pic 112 (hiS (biOf X)) hi z0) ++ pic 2 (tpS (biOf X)) tp z0)) (cs2 := 154) (sl2 := 5607) rfl rfl rfl ?_
  refine e_putF (fs2 := [.ref (u1 0), .ref (u2 0), .ref (s1 0), .ref (s2 0), .ref (hi 0), .ref (tp 0), .null, .null, .null, .null, .null, .null, .int 0]) C rfl inG10 tyX10 tyX10_ok nmX10 5 (by decide) (Nat.le_of_ble_eq_true rfl) rfl (tg 505 (by decide +kernel) rfl) rfl rfl rfl rfl rfl dX10_init_67 ?_
  refine e_aload C 0 rfl rfl dX10_init_70 ?_
  refine e_new (ci := 5) (fs := [.null, .null, .int 0, .int 0, .int 0, .int 0]) C rfl inG5 tyX5 tyX5_ok (tg 331 (by decide +kernel) rfl) (tg 332 (by decide +kernel) rfl) (tg 120 (by decide +kernel) rfl) (fun j hj => by rcases (show j = 0 ∨ j = 1 ∨ j = 2 ∨ j = 3 ∨ j = 4 ∨ j = 5 by omega) with rfl | rfl | rfl | rfl | rfl | rfl <;> rfl) (Nat.le_of_ble_eq_true rfl) (Nat.le_of_ble_eq_true rfl) dX10_init_71 (fun q_rd => ?_)
  refine e_dup C rfl dX10_init_74 ?_
  refine e_aload C 0 rfl rfl dX10_init_75 ?_
  refine e_getA C rfl inG10 5 (by decide) rfl rfl (tg 505 (by decide +kernel) rfl) dX10_init_76 ?_
  refine e_aload C 0 rfl rfl dX10_init_79 ?_
  refine e_getA C rfl inG10 1 (by decide) rfl rfl (tg 501 (by decide +kernel) rfl) dX10_init_80 ?_
  refine e_ctor (as := [.ref (tp 0), .ref (u2 0)]) C i_rdS nT_ok trivial (tg 333 (by decide +kernel) rfl) (tg 335 (by decide +kernel) rfl) (tg 120 (by decide +kernel) rfl) (tg 334 (by decide +kernel) rfl) rfl ⟨by decide, by decide, by show Option.map _ (parseMethodDescriptor yX5_init.desc) = some 2; decide +kernel⟩ ⟨Nat.le_of_ble_eq_true rfl, Nat.le_of_ble_eq_true rfl⟩ ⟨Nat.le_of_ble_eq_true rfl, Nat.le_of_ble_eq_true rfl⟩ (Nat.le_of_ble_eq_true rfl) rfl dX10_init_83 (fun rd e_rd => ?_)
  subst e_rd
  refine Bt.eqw (ws2 := (h0, .inr (10, [.ref (u1 0), .ref (u2 0), .ref (s1 0), .ref (s2 0), .ref (hi 0), .ref (tp 0), .null, .null, .null, .null, .null, .null, .int 0])) :: ((((((([] ++ pic 9 (suS (biOf X)) u1 z0) ++ pic 9 (suS (biOf X)) u2 z0) ++ pic 11 (stS (biOf X)) s1 z0) ++ pic 11 (stS (biOf X)) s2 z0) ++ pic 112 (hiS (biOf X)) hi z0) ++ pic 2 (tpS (biOf X)) tp z0) ++ pic 1 (rdS (biOf X) ((tp 0)) ((u2 0))) rd z0)) (cs2 := 155) (sl2 := 5613) rfl rfl rfl ?_
  refine e_putF (fs2 := [.ref (u1 0), .ref (u2 0), .ref (s1 0), .ref (s2 0), .ref (hi 0), .ref (tp 0), .ref (rd 0), .null, .null, .null, .null, .null, .int 0]) C rfl inG10 tyX10 tyX10_ok nmX10 6 (by decide) (Nat.le_of_ble_eq_true rfl) rfl (tg 506 (by decide +kernel) rfl) rfl rfl rfl rfl rfl dX10_init_86 ?_
  refine e_aload C 0 rfl rfl dX10_init_89 ?_
  refine e_new (ci := 6) (fs := [.null, .null]) C rfl inG6 tyX6 tyX6_ok (tg 357 (by decide +kernel) rfl) (tg 358 (by decide +kernel) rfl) (tg 121 (by decide +kernel) rfl) (fun j hj => by rcases (show j = 0 ∨ j = 1 by omega) with rfl | rfl <;> rfl) (Nat.le_of_ble_eq_true rfl) (Nat.le_of_ble_eq_true rfl) dX10_init_90 (fun q_sp => ?_)
  refine e_dup C rfl dX10_init_93 ?_
  refine e_aload C 0 rfl rfl dX10_init_94 ?_
  refine e_getA C rfl inG10 0 (by decide) rfl rfl (tg 500 (by decide +kernel) rfl) dX10_init_95 ?_
  refine e_aload C 0 rfl rfl dX10_init_98 ?_
  refine e_getA C rfl inG10 2 (by decide) rfl rfl (tg 502 (by decide +kernel) rfl) dX10_init_99 ?_
  refine e_ctor (as := [.ref (u1 0), .ref (s1 0)]) C i_spS nT_ok trivial (tg 359 (by decide +kernel) rfl) (tg 361 (by decide +kernel) rfl) (tg 121 (by decide +kernel) rfl) (tg 360 (by decide +kernel) rfl) rfl ⟨by decide, by decide, by show Option.map _ (parseMethodDescriptor yX6_init.desc) = some 2; decide +kernel⟩ ⟨Nat.le_of_ble_eq_true rfl, Nat.le_of_ble_eq_true rfl⟩ ⟨Nat.le_of_ble_eq_true rfl, Nat.le_of_ble_eq_true rfl⟩ (Nat.le_of_ble_eq_true rfl) rfl dX10_init_102 (fun sp e_sp => ?_)
  subst e_sp
  refine Bt.eqw (ws2 := (h0, .inr (10, [.ref (u1 0), .ref (u2 0), .ref (s1 0), .ref (s2 0), .ref (hi 0), .ref (tp 0), .ref (rd 0), .null, .null, .null, .null, .null, .int 0])) :: (((((((([] ++ pic 9 (suS (biOf X)) u1 z0) ++ pic 9 (suS (biOf X)) u2 z0) ++ pic 11 (stS (biOf X)) s1 z0) ++ pic 11 (stS (biOf X)) s2 z0) ++ pic 112 (hiS (biOf X)) hi z0) ++ pic 2 (tpS (biOf X)) tp z0) ++ pic 1 (rdS (biOf X) ((tp 0)) ((u2 0))) rd z0) ++ pic 1 (spS (biOf X) ((u1 0)) ((s1 0))) sp z0)) (cs2 := 156) (sl2 := 5615) rfl rfl rfl ?_
  refine e_putF (fs2 := [.ref (u1 0), .ref (u2 0), .ref (s1 0), .ref (s2 0), .ref (hi 0), .ref (tp 0), .ref (rd 0), .ref (sp 0), .null, .null, .null, .null, .int 0]) C rfl inG10 tyX10 tyX10_ok nmX10 7 (by decide) (Nat.le_of_ble_eq_true rfl) rfl (tg 507 (by decide +kernel) rfl) rfl rfl rfl rfl rfl dX10_init_105 ?_
  refine e_aload C 0 rfl rfl dX10_init_108 ?_
  refine e_new (ci := 0) (fs := [.null, .null, .null, .null, .null, .null]) C rfl inG0 tyX0 tyX0_ok (tg 370 (by decide +kernel) rfl) (tg 371 (by decide +kernel) rfl) (tg 122 (by decide +kernel) rfl) (fun j hj => by rcases (show j = 0 ∨ j = 1 ∨ j = 2 ∨ j = 3 ∨ j = 4 ∨ j = 5 by omega) with rfl | rfl | rfl | rfl | rfl | rfl <;> rfl) (Nat.le_of_ble_eq_true rfl) (Nat.le_of_ble_eq_true rfl) dX10_init_109 (fun q_fl => ?_)
  refine e_dup C rfl dX10_init_112 ?_
  refine e_aload C 0 rfl rfl dX10_init_113 ?_
  refine e_getA C rfl inG10 0 (by decide) rfl rfl (tg 500 (by decide +kernel) rfl) dX10_init_114 ?_
  refine e_aload C 0 rfl rfl dX10_init_117 ?_
  refine e_getA C rfl inG10 2 (by decide) rfl rfl (tg 502 (by decide +kernel) rfl) dX10_init_118 ?_
  refine e_aload C 0 rfl rfl dX10_init_121 ?_
  refine e_getA C rfl inG10 7 (by decide) rfl rfl (tg 507 (by decide +kernel) rfl) dX10_init_122 ?_
  refine e_ctor (as := [.ref (u1 0), .ref (s1 0), .ref (sp 0)]) C i_flS nT_ok trivial (tg 372 (by decide +kernel) rfl) (tg 374 (by decide +kernel) rfl) (tg 122 (by decide +kernel) rfl) (tg 373 (by decide +kernel) rfl) rfl ⟨by decide, by decide, by show Option.map _ (parseMethodDescriptor yX0_init.desc) = some 3; decide +kernel⟩ ⟨Nat.le_of_ble_eq_true rfl, Nat.le_of_ble_eq_true rfl⟩ ⟨Nat.le_of_ble_eq_true rfl, Nat.le_of_ble_eq_true rfl⟩ (Nat.le_of_ble_eq_true rfl) rfl dX10_init_125 (fun fl e_fl => ?_)
  subst e_fl
  refine Bt.eqw (ws2 := (h0, .inr (10, [.ref (u1 0), .ref (u2 0), .ref (s1 0), .ref (s2 0), .ref (hi 0), .ref (tp 0), .ref (rd 0), .ref (sp 0), .null, .null, .null, .null, .int 0])) :: ((((((((([] ++ pic 9 (suS (biOf X)) u1 z0) ++ pic 9 (suS (biOf X)) u2 z0) ++ pic 11 (stS (biOf X)) s1 z0) ++ pic 11 (stS (biOf X)) s2 z0) ++ pic 112 (hiS (biOf X)) hi z0) ++ pic 2 (tpS (biOf X)) tp z0) ++ pic 1 (rdS (biOf X) ((tp 0)) ((u2 0))) rd z0) ++ pic 1 (spS (biOf X) ((u1 0)) ((s1 0))) sp z0) ++ pic 4 (flS (biOf X) ((u1 0)) ((s1 0)) ((sp 0))) fl z0)) (cs2 := 160) (sl2 := 5733) rfl rfl rfl ?_
  refine e_putF (fs2 := [.ref (u1 0), .ref (u2 0), .ref (s1 0), .ref (s2 0), .ref (hi 0), .ref (tp 0), .ref (rd 0), .ref (sp 0), .ref (fl 0), .null, .null, .null, .int 0]) C rfl inG10 tyX10 tyX10_ok nmX10 8 (by decide) (Nat.le_of_ble_eq_true rfl) rfl (tg 508 (by decide +kernel) rfl) rfl rfl rfl rfl rfl dX10_init_128 ?_
  refine e_aload C 0 rfl rfl dX10_init_131 ?_
  refine e_new (ci := 1) (fs := [.null, .null, .null, .null, .null, .null, .int 0]) C rfl inG1 tyX1 tyX1_ok (tg 398 (by decide +kernel) rfl) (tg 399 (by decide +kernel) rfl) (tg 123 (by decide +kernel) rfl) (fun j hj => by rcases (show j = 0 ∨ j = 1 ∨ j = 2 ∨ j = 3 ∨ j = 4 ∨ j = 5 ∨ j = 6 by omega) with rfl | rfl | rfl | rfl | rfl | rfl | rfl <;> rfl) (Nat.le_of_ble_eq_true rfl) (Nat.le_of_ble_eq_true rfl) dX10_init_132 (fun q_gr => ?_)
  refine e_dup C rfl dX10_init_135 ?_
  refine e_aload C 0 rfl rfl dX10_init_136 ?_
  refine e_getA C rfl inG10 0 (by decide) rfl rfl (tg 500 (by decide +kernel) rfl) dX10_init_137 ?_
  refine e_aload C 0 rfl rfl dX10_init_140 ?_
  refine e_getA C rfl inG10 2 (by decide) rfl rfl (tg 502 (by decide +kernel) rfl) dX10_init_141 ?_
  refine e_aload C 0 rfl rfl dX10_init_144 ?_
  refine e_getA C rfl inG10 7 (by decide) rfl rfl (tg 507 (by decide +kernel) rfl) dX10_init_145 ?_
  refine e_ctor (as := [.ref (u1 0), .ref (s1 0), .ref (sp 0)]) C i_grS nT_ok trivial (tg 400 (by decide +kernel) rfl) (tg 402 (by decide +kernel) rfl) (tg 123 (by decide +kernel) rfl) (tg 401 (by decide +kernel) rfl) rfl ⟨by decide, by decide, by show Option.map _ (parseMethodDescriptor yX1_init.desc) = some 3; decide +kernel⟩ ⟨Nat.le_of_ble_eq_true rfl, Nat.le_of_ble_eq_true rfl⟩ ⟨Nat.le_of_ble_eq_true rfl, Nat.le_of_ble_eq_true rfl⟩ (Nat.le_of_ble_eq_true rfl) rfl dX10_init_148 (fun gr e_gr => ?_)
  subst e_gr
  refine Bt.eqw (ws2 := (h0, .inr (10, [.ref (u1 0), .ref (u2 0), .ref (s1 0), .ref (s2 0), .ref (hi 0), .ref (tp 0), .ref (rd 0), .ref (sp 0), .ref (fl 0), .null, .null, .null, .int 0])) :: (((((((((([] ++ pic 9 (suS (biOf X)) u1 z0) ++ pic 9 (suS (biOf X)) u2 z0) ++ pic 11 (stS (biOf X)) s1 z0) ++ pic 11 (stS (biOf X)) s2 z0) ++ pic 112 (hiS (biOf X)) hi z0) ++ pic 2 (tpS (biOf X)) tp z0) ++ pic 1 (rdS (biOf X) ((tp 0)) ((u2 0))) rd z0) ++ pic 1 (spS (biOf X) ((u1 0)) ((s1 0))) sp z0) ++ pic 4 (flS (biOf X) ((u1 0)) ((s1 0)) ((sp 0))) fl z0) ++ pic 4 (grS (biOf X) ((u1 0)) ((s1 0)) ((sp 0))) gr z0)) (cs2 := 164) (sl2 := 5804) rfl rfl rfl ?_
  refine e_putF (fs2 := [.ref (u1 0), .ref (u2 0), .ref (s1 0), .ref (s2 0), .ref (hi 0), .ref (tp 0), .ref (rd 0), .ref (sp 0), .ref (fl 0), .ref (gr 0), .null, .null, .int 0]) C rfl inG10 tyX10 tyX10_ok nmX10 9 (by decide) (Nat.le_of_ble_eq_true rfl) rfl (tg 509 (by decide +kernel) rfl) rfl rfl rfl rfl rfl dX10_init_151 ?_
  refine e_aload C 0 rfl rfl dX10_init_154 ?_
  refine e_new (ci := 9) (fs := [.null, .null, .null, .null, .null]) C rfl inG9 tyX9 tyX9_ok (tg 428 (by decide +kernel) rfl) (tg 429 (by decide +kernel) rfl) (tg 124 (by decide +kernel) rfl) (fun j hj => by rcases (show j = 0 ∨ j = 1 ∨ j = 2 ∨ j = 3 ∨ j = 4 by omega) with rfl | rfl | rfl | rfl | rfl <;> rfl) (Nat.le_of_ble_eq_true rfl) (Nat.le_of_ble_eq_true rfl) dX10_init_155 (fun q_tr => ?_)
  refine e_dup C rfl dX10_init_158 ?_
  refine e_aload C 0 rfl rfl dX10_init_159 ?_
  refine e_getA C rfl inG10 0 (by decide) rfl rfl (tg 500 (by decide +kernel) rfl) dX10_init_160 ?_
  refine e_aload C 0 rfl rfl dX10_init_163 ?_
  refine e_getA C rfl inG10 2 (by decide) rfl rfl (tg 502 (by decide +kernel) rfl) dX10_init_164 ?_
  refine e_aload C 0 rfl rfl dX10_init_167 ?_
  refine e_getA C rfl inG10 7 (by decide) rfl rfl (tg 507 (by decide +kernel) rfl) dX10_init_168 ?_
  refine e_aload C 0 rfl rfl dX10_init_171 ?_
  refine e_getA C rfl inG10 8 (by decide) rfl rfl (tg 508 (by decide +kernel) rfl) dX10_init_172 ?_
  refine e_aload C 0 rfl rfl dX10_init_175 ?_
  refine e_getA C rfl inG10 9 (by decide) rfl rfl (tg 509 (by decide +kernel) rfl) dX10_init_176 ?_
  refine e_ctor (as := [.ref (u1 0), .ref (s1 0), .ref (sp 0), .ref (fl 0), .ref (gr 0)]) C i_trS nT_ok trivial (tg 430 (by decide +kernel) rfl) (tg 432 (by decide +kernel) rfl) (tg 124 (by decide +kernel) rfl) (tg 431 (by decide +kernel) rfl) rfl ⟨by decide, by decide, by show Option.map _ (parseMethodDescriptor yX9_init.desc) = some 5; decide +kernel⟩ ⟨Nat.le_of_ble_eq_true rfl, Nat.le_of_ble_eq_true rfl⟩ ⟨Nat.le_of_ble_eq_true rfl, Nat.le_of_ble_eq_true rfl⟩ (Nat.le_of_ble_eq_true rfl) rfl dX10_init_179 (fun tr e_tr => ?_)
  subst e_tr
  refine Bt.eqw (ws2 := (h0, .inr (10, [.ref (u1 0), .ref (u2 0), .ref (s1 0), .ref (s2 0), .ref (hi 0), .ref (tp 0), .ref (rd 0), .ref (sp 0), .ref (fl 0), .ref (gr 0), .null, .null, .int 0])) :: ((((((((((([] ++ pic 9 (suS (biOf X)) u1 z0) ++ pic 9 (suS (biOf X)) u2 z0) ++ pic 11 (stS (biOf X)) s1 z0) ++ pic 11 (stS (biOf X)) s2 z0) ++ pic 112 (hiS (biOf X)) hi z0) ++ pic 2 (tpS (biOf X)) tp z0) ++ pic 1 (rdS (biOf X) ((tp 0)) ((u2 0))) rd z0) ++ pic 1 (spS (biOf X) ((u1 0)) ((s1 0))) sp z0) ++ pic 4 (flS (biOf X) ((u1 0)) ((s1 0)) ((sp 0))) fl z0) ++ pic 4 (grS (biOf X) ((u1 0)) ((s1 0)) ((sp 0))) gr z0) ++ pic 1 (trS (biOf X) ((u1 0)) ((s1 0)) ((sp 0)) ((fl 0)) ((gr 0))) tr z0)) (cs2 := 165) (sl2 := 5809) rfl rfl rfl ?_
  refine e_putF (fs2 := [.ref (u1 0), .ref (u2 0), .ref (s1 0), .ref (s2 0), .ref (hi 0), .ref (tp 0), .ref (rd 0), .ref (sp 0), .ref (fl 0), .ref (gr 0), .ref (tr 0), .null, .int 0]) C rfl inG10 tyX10 tyX10_ok nmX10 10 (by decide) (Nat.le_of_ble_eq_true rfl) rfl (tg 510 (by decide +kernel) rfl) rfl rfl rfl rfl rfl dX10_init_182 ?_
  refine e_aload C 0 rfl rfl dX10_init_185 ?_
  refine e_new (ci := 3) (fs := [.null, .null, .null, .null, .int 0]) C rfl inG3 tyX3 tyX3_ok (tg 450 (by decide +kernel) rfl) (tg 451 (by decide +kernel) rfl) (tg 125 (by decide +kernel) rfl) (fun j hj => by rcases (show j = 0 ∨ j = 1 ∨ j = 2 ∨ j = 3 ∨ j = 4 by omega) with rfl | rfl | rfl | rfl | rfl <;> rfl) (Nat.le_of_ble_eq_true rfl) (Nat.le_of_ble_eq_true rfl) dX10_init_186 (fun q_rp => ?_)
  refine e_dup C rfl dX10_init_189 ?_
  refine e_aload C 0 rfl rfl dX10_init_190 ?_
  refine e_getA C rfl inG10 0 (by decide) rfl rfl (tg 500 (by decide +kernel) rfl) dX10_init_191 ?_
  refine e_aload C 0 rfl rfl dX10_init_194 ?_
  refine e_getA C rfl inG10 2 (by decide) rfl rfl (tg 502 (by decide +kernel) rfl) dX10_init_195 ?_
  refine e_aload C 0 rfl rfl dX10_init_198 ?_
  refine e_getA C rfl inG10 8 (by decide) rfl rfl (tg 508 (by decide +kernel) rfl) dX10_init_199 ?_
  refine e_ctor (as := [.ref (u1 0), .ref (s1 0), .ref (fl 0)]) C i_rpS nT_ok trivial (tg 452 (by decide +kernel) rfl) (tg 454 (by decide +kernel) rfl) (tg 125 (by decide +kernel) rfl) (tg 453 (by decide +kernel) rfl) rfl ⟨by decide, by decide, by show Option.map _ (parseMethodDescriptor yX3_init.desc) = some 3; decide +kernel⟩ ⟨Nat.le_of_ble_eq_true rfl, Nat.le_of_ble_eq_true rfl⟩ ⟨Nat.le_of_ble_eq_true rfl, Nat.le_of_ble_eq_true rfl⟩ (Nat.le_of_ble_eq_true rfl) rfl dX10_init_202 (fun rp e_rp => ?_)
  subst e_rp
  refine Bt.eqw (ws2 := (h0, .inr (10, [.ref (u1 0), .ref (u2 0), .ref (s1 0), .ref (s2 0), .ref (hi 0), .ref (tp 0), .ref (rd 0), .ref (sp 0), .ref (fl 0), .ref (gr 0), .ref (tr 0), .null, .int 0])) :: (((((((((((([] ++ pic 9 (suS (biOf X)) u1 z0) ++ pic 9 (suS (biOf X)) u2 z0) ++ pic 11 (stS (biOf X)) s1 z0) ++ pic 11 (stS (biOf X)) s2 z0) ++ pic 112 (hiS (biOf X)) hi z0) ++ pic 2 (tpS (biOf X)) tp z0) ++ pic 1 (rdS (biOf X) ((tp 0)) ((u2 0))) rd z0) ++ pic 1 (spS (biOf X) ((u1 0)) ((s1 0))) sp z0) ++ pic 4 (flS (biOf X) ((u1 0)) ((s1 0)) ((sp 0))) fl z0) ++ pic 4 (grS (biOf X) ((u1 0)) ((s1 0)) ((sp 0))) gr z0) ++ pic 1 (trS (biOf X) ((u1 0)) ((s1 0)) ((sp 0)) ((fl 0)) ((gr 0))) tr z0) ++ pic 2 (rpS (biOf X) ((u1 0)) ((s1 0)) ((fl 0))) rp z0)) (cs2 := 167) (sl2 := 5990) rfl rfl rfl ?_
  refine e_putF (fs2 := [.ref (u1 0), .ref (u2 0), .ref (s1 0), .ref (s2 0), .ref (hi 0), .ref (tp 0), .ref (rd 0), .ref (sp 0), .ref (fl 0), .ref (gr 0), .ref (tr 0), .ref (rp 0), .int 0]) C rfl inG10 tyX10 tyX10_ok nmX10 11 (by decide) (Nat.le_of_ble_eq_true rfl) rfl (tg 511 (by decide +kernel) rfl) rfl rfl rfl rfl rfl dX10_init_205 ?_
  refine e_aload C 0 rfl rfl dX10_init_208 ?_
  refine e_bipush (v := -2) C (by decide) dX10_init_209 ?_
  refine e_put (fs2 := [.ref (u1 0), .ref (u2 0), .ref (s1 0), .ref (s2 0), .ref (hi 0), .ref (tp 0), .ref (rd 0), .ref (sp 0), .ref (fl 0), .ref (gr 0), .ref (tr 0), .ref (rp 0), .int (-2)]) C rfl inG10 tyX10 tyX10_ok nmX10 12 (by decide) (Nat.le_of_ble_eq_true rfl) rfl (tg 512 (by decide +kernel) rfl) rfl rfl rfl rfl dX10_init_211 ?_
  exact k u1 u2 s1 s2 hi tp rd sp fl gr tr rp
