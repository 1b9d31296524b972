/-! ===== the constructors of the classes inside ===== -/
def stS (I : ClassId × ClassId × ClassId × ClassId) : Sh := fun ad k f _ => stSh I ad k k f
def suS (I : ClassId × ClassId × ClassId × ClassId) : Sh := fun ad k f _ => suSh I ad k k f
def tpS (I : ClassId × ClassId × ClassId × ClassId) : Sh := fun ad k f1 _ => match k with
  | 0 => .inr (8, [.ref (ad 1), .int (f1 1)])
  | _ => .inl (I.1, 1400, .inl f1)
def rdS (I : ClassId × ClassId × ClassId × ClassId) (t : Nat) (d : Nat) : Sh := fun ad k f1 _ => match k with
  | _ => .inr (5, [.ref t, .ref d, .int (f1 2), .int (f1 3), .int (f1 4), .int (f1 5)])
def spS (I : ClassId × ClassId × ClassId × ClassId) (u : Nat) (t : Nat) : Sh := fun ad k f1 _ => match k with
  | _ => .inr (6, [.ref u, .ref t])
def flS (I : ClassId × ClassId × ClassId × ClassId) (u : Nat) (t : Nat) (h : Nat) : Sh := fun ad k f1 _ => match k with
  | 0 => .inr (0, [.ref u, .ref t, .ref h, .ref (ad 1), .ref (ad 2), .ref (ad 3)])
  | 1 => .inl (I.1, 64, .inl f1)
  | 2 => .inl (I.1, 32, .inl f1)
  | _ => .inl (I.1, 16, .inl f1)
def grS (I : ClassId × ClassId × ClassId × ClassId) (u : Nat) (t : Nat) (h : Nat) : Sh := fun ad k f1 _ => match k with
  | 0 => .inr (1, [.ref u, .ref t, .ref h, .ref (ad 1), .ref (ad 2), .ref (ad 3), .int (f1 6)])
  | 1 => .inl (I.1, 32, .inl f1)
  | 2 => .inl (I.1, 16, .inl f1)
  | _ => .inl (I.1, 16, .inl f1)
def trS (I : ClassId × ClassId × ClassId × ClassId) (u : Nat) (t : Nat) (h : Nat) (f : Nat) (g : Nat) : Sh := fun ad k f1 _ => match k with
  | _ => .inr (9, [.ref u, .ref t, .ref h, .ref f, .ref g])
def rpS (I : ClassId × ClassId × ClassId × ClassId) (u : Nat) (t : Nat) (f : Nat) : Sh := fun ad k f1 _ => match k with
  | 0 => .inr (3, [.ref u, .ref t, .ref f, .ref (ad 1), .int (f1 4)])
  | _ => .inl (I.1, 176, .inl f1)
def hiS (I : ClassId × ClassId × ClassId × ClassId) : Sh := fun ad k f _ => if k < 1 then .inr (2, [.ref (ad 1), .int (f 1), .int (f 2)]) else if k < 2 then .inl (I.2.2.2, 10, .inr (.inr (.inr (.inr (fun i => if i < 10 then some (ad (2 + 11 * i)) else none))))) else stSh I ad ((k - 2) % 11) k f
abbrev rmI_stS : Room := { frames := 1, cells := 10, slots := 265, locals := 14 }
theorem i_stS {l : Launch} {D : va_G} {I : ClassId × ClassId × ClassId × ClassId} {h0 : Nat} : CtI l D I nT yX7_init cX7_init 1 rmI_stS h0 [] (.inr (7, [.int 0, .null, .null, .null, .null, .null, .null, .null, .null, .null, .null])) (fun a => pic 11 (stS I) a z0) := by
  refine ct_of (by decide) rfl (Nat.le_of_ble_eq_true rfl) (fun p e s m args below meth c Q A X hX C hN hret => ?_)
  have eI : I = biOf X := by subst hX; rfl
  rw [eI] at hret
  show Bt X 0 [(0, .ref h0)] [] [(h0, .inr (7, [.int 0, .null, .null, .null, .null, .null, .null, .null, .null, .null, .null]))] 0 0
  refine e_aload C 0 rfl rfl dX7_init_0 ?_
  refine e_obj C (tg 223 (by decide +kernel) rfl) (Nat.le_of_ble_eq_true rfl) (Nat.le_of_ble_eq_true rfl) dX7_init_1 ?_
  refine e_aload C 0 rfl rfl dX7_init_4 ?_
  refine e_bipush (v := 21) C (by decide) dX7_init_5 ?_
  refine e_newI (N := 21) C (by decide) (by decide) (by decide) (Nat.le_of_ble_eq_true rfl) (Nat.le_of_ble_eq_true rfl) dX7_init_7 (fun q1 => ?_)
  show Bt X 9 [(0, .ref h0)] [.ref q1, .ref h0] [(h0, .inr (7, [.int 0, .null, .null, .null, .null, .null, .null, .null, .null, .null, .null])), (q1, .inl ((biOf X).1, 21, .inl (fun _ => 0)))] 1 21
  refine e_putF (fs2 := [.int 0, .ref q1, .null, .null, .null, .null, .null, .null, .null, .null, .null]) C rfl inG7 tyX7 tyX7_ok nmX7 1 (by decide) (Nat.le_of_ble_eq_true rfl) rfl (tg 229 (by decide +kernel) rfl) rfl rfl rfl rfl rfl dX7_init_9 ?_
  refine e_aload C 0 rfl rfl dX7_init_12 ?_
  refine e_bipush (v := 21) C (by decide) dX7_init_13 ?_
  refine e_newI (N := 21) C (by decide) (by decide) (by decide) (Nat.le_of_ble_eq_true rfl) (Nat.le_of_ble_eq_true rfl) dX7_init_15 (fun q2 => ?_)
  show Bt X 17 [(0, .ref h0)] [.ref q2, .ref h0] [(h0, .inr (7, [.int 0, .ref q1, .null, .null, .null, .null, .null, .null, .null, .null, .null])), (q1, .inl ((biOf X).1, 21, .inl (fun _ => 0))), (q2, .inl ((biOf X).1, 21, .inl (fun _ => 0)))] 2 42
  refine e_putF (fs2 := [.int 0, .ref q1, .ref q2, .null, .null, .null, .null, .null, .null, .null, .null]) C rfl inG7 tyX7 tyX7_ok nmX7 2 (by decide) (Nat.le_of_ble_eq_true rfl) rfl (tg 232 (by decide +kernel) rfl) rfl rfl rfl rfl rfl dX7_init_17 ?_
  refine e_aload C 0 rfl rfl dX7_init_20 ?_
  refine e_bipush (v := 21) C (by decide) dX7_init_21 ?_
  refine e_newI (N := 21) C (by decide) (by decide) (by decide) (Nat.le_of_ble_eq_true rfl) (Nat.le_of_ble_eq_true rfl) dX7_init_23 (fun q3 => ?_)
  show Bt X 25 [(0, .ref h0)] [.ref q3, .ref h0] [(h0, .inr (7, [.int 0, .ref q1, .ref q2, .null, .null, .null, .null, .null, .null, .null, .null])), (q1, .inl ((biOf X).1, 21, .inl (fun _ => 0))), (q2, .inl ((biOf X).1, 21, .inl (fun _ => 0))), (q3, .inl ((biOf X).1, 21, .inl (fun _ => 0)))] 3 63
  refine e_putF (fs2 := [.int 0, .ref q1, .ref q2, .ref q3, .null, .null, .null, .null, .null, .null, .null]) C rfl inG7 tyX7 tyX7_ok nmX7 3 (by decide) (Nat.le_of_ble_eq_true rfl) rfl (tg 236 (by decide +kernel) rfl) rfl rfl rfl rfl rfl dX7_init_25 ?_
  refine e_aload C 0 rfl rfl dX7_init_28 ?_
  refine e_bipush (v := 21) C (by decide) dX7_init_29 ?_
  refine e_newI (N := 21) C (by decide) (by decide) (by decide) (Nat.le_of_ble_eq_true rfl) (Nat.le_of_ble_eq_true rfl) dX7_init_31 (fun q4 => ?_)
  show Bt X 33 [(0, .ref h0)] [.ref q4, .ref h0] [(h0, .inr (7, [.int 0, .ref q1, .ref q2, .ref q3, .null, .null, .null, .null, .null, .null, .null])), (q1, .inl ((biOf X).1, 21, .inl (fun _ => 0))), (q2, .inl ((biOf X).1, 21, .inl (fun _ => 0))), (q3, .inl ((biOf X).1, 21, .inl (fun _ => 0))), (q4, .inl ((biOf X).1, 21, .inl (fun _ => 0)))] 4 84
  refine e_putF (fs2 := [.int 0, .ref q1, .ref q2, .ref q3, .ref q4, .null, .null, .null, .null, .null, .null]) C rfl inG7 tyX7 tyX7_ok nmX7 4 (by decide) (Nat.le_of_ble_eq_true rfl) rfl (tg 239 (by decide +kernel) rfl) rfl rfl rfl rfl rfl dX7_init_33 ?_
  refine e_aload C 0 rfl rfl dX7_init_36 ?_
  refine e_bipush (v := 21) C (by decide) dX7_init_37 ?_
  refine e_newZ (N := 21) C (by decide) (by decide) (by decide) (Nat.le_of_ble_eq_true rfl) (Nat.le_of_ble_eq_true rfl) dX7_init_39 (fun q5 => ?_)
  show Bt X 41 [(0, .ref h0)] [.ref q5, .ref h0] [(h0, .inr (7, [.int 0, .ref q1, .ref q2, .ref q3, .ref q4, .null, .null, .null, .null, .null, .null])), (q1, .inl ((biOf X).1, 21, .inl (fun _ => 0))), (q2, .inl ((biOf X).1, 21, .inl (fun _ => 0))), (q3, .inl ((biOf X).1, 21, .inl (fun _ => 0))), (q4, .inl ((biOf X).1, 21, .inl (fun _ => 0))), (q5, .inl ((biOf X).2.2.1, 21, .inl (fun _ => 0)))] 5 105
  refine e_putF (fs2 := [.int 0, .ref q1, .ref q2, .ref q3, .ref q4, .ref q5, .null, .null, .null, .null, .null]) C rfl inG7 tyX7 tyX7_ok nmX7 5 (by decide) (Nat.le_of_ble_eq_true rfl) rfl (tg 244 (by decide +kernel) rfl) rfl rfl rfl rfl rfl dX7_init_41 ?_
  refine e_aload C 0 rfl rfl dX7_init_44 ?_
  refine e_bipush (v := 32) C (by decide) dX7_init_45 ?_
  refine e_newI (N := 32) C (by decide) (by decide) (by decide) (Nat.le_of_ble_eq_true rfl) (Nat.le_of_ble_eq_true rfl) dX7_init_47 (fun q6 => ?_)
  show Bt X 49 [(0, .ref h0)] [.ref q6, .ref h0] [(h0, .inr (7, [.int 0, .ref q1, .ref q2, .ref q3, .ref q4, .ref q5, .null, .null, .null, .null, .null])), (q1, .inl ((biOf X).1, 21, .inl (fun _ => 0))), (q2, .inl ((biOf X).1, 21, .inl (fun _ => 0))), (q3, .inl ((biOf X).1, 21, .inl (fun _ => 0))), (q4, .inl ((biOf X).1, 21, .inl (fun _ => 0))), (q5, .inl ((biOf X).2.2.1, 21, .inl (fun _ => 0))), (q6, .inl ((biOf X).1, 32, .inl (fun _ => 0)))] 6 137
  refine e_putF (fs2 := [.int 0, .ref q1, .ref q2, .ref q3, .ref q4, .ref q5, .ref q6, .null, .null, .null, .null]) C rfl inG7 tyX7 tyX7_ok nmX7 6 (by decide) (Nat.le_of_ble_eq_true rfl) rfl (tg 247 (by decide +kernel) rfl) rfl rfl rfl rfl rfl dX7_init_49 ?_
  refine e_aload C 0 rfl rfl dX7_init_52 ?_
  refine e_bipush (v := 32) C (by decide) dX7_init_53 ?_
  refine e_newZ (N := 32) C (by decide) (by decide) (by decide) (Nat.le_of_ble_eq_true rfl) (Nat.le_of_ble_eq_true rfl) dX7_init_55 (fun q7 => ?_)
  show Bt X 57 [(0, .ref h0)] [.ref q7, .ref h0] [(h0, .inr (7, [.int 0, .ref q1, .ref q2, .ref q3, .ref q4, .ref q5, .ref q6, .null, .null, .null, .null])), (q1, .inl ((biOf X).1, 21, .inl (fun _ => 0))), (q2, .inl ((biOf X).1, 21, .inl (fun _ => 0))), (q3, .inl ((biOf X).1, 21, .inl (fun _ => 0))), (q4, .inl ((biOf X).1, 21, .inl (fun _ => 0))), (q5, .inl ((biOf X).2.2.1, 21, .inl (fun _ => 0))), (q6, .inl ((biOf X).1, 32, .inl (fun _ => 0))), (q7, .inl ((biOf X).2.2.1, 32, .inl (fun _ => 0)))] 7 169
  refine e_putF (fs2 := [.int 0, .ref q1, .ref q2, .ref q3, .ref q4, .ref q5, .ref q6, .ref q7, .null, .null, .null]) C rfl inG7 tyX7 tyX7_ok nmX7 7 (by decide) (Nat.le_of_ble_eq_true rfl) rfl (tg 251 (by decide +kernel) rfl) rfl rfl rfl rfl rfl dX7_init_57 ?_
  refine e_aload C 0 rfl rfl dX7_init_60 ?_
  refine e_bipush (v := 64) C (by decide) dX7_init_61 ?_
  refine e_newZ (N := 64) C (by decide) (by decide) (by decide) (Nat.le_of_ble_eq_true rfl) (Nat.le_of_ble_eq_true rfl) dX7_init_63 (fun q8 => ?_)
  show Bt X 65 [(0, .ref h0)] [.ref q8, .ref h0] [(h0, .inr (7, [.int 0, .ref q1, .ref q2, .ref q3, .ref q4, .ref q5, .ref q6, .ref q7, .null, .null, .null])), (q1, .inl ((biOf X).1, 21, .inl (fun _ => 0))), (q2, .inl ((biOf X).1, 21, .inl (fun _ => 0))), (q3, .inl ((biOf X).1, 21, .inl (fun _ => 0))), (q4, .inl ((biOf X).1, 21, .inl (fun _ => 0))), (q5, .inl ((biOf X).2.2.1, 21, .inl (fun _ => 0))), (q6, .inl ((biOf X).1, 32, .inl (fun _ => 0))), (q7, .inl ((biOf X).2.2.1, 32, .inl (fun _ => 0))), (q8, .inl ((biOf X).2.2.1, 64, .inl (fun _ => 0)))] 8 233
  refine e_putF (fs2 := [.int 0, .ref q1, .ref q2, .ref q3, .ref q4, .ref q5, .ref q6, .ref q7, .ref q8, .null, .null]) C rfl inG7 tyX7 tyX7_ok nmX7 8 (by decide) (Nat.le_of_ble_eq_true rfl) rfl (tg 255 (by decide +kernel) rfl) rfl rfl rfl rfl rfl dX7_init_65 ?_
  refine e_aload C 0 rfl rfl dX7_init_68 ?_
  refine e_bipush (v := 16) C (by decide) dX7_init_69 ?_
  refine e_newZ (N := 16) C (by decide) (by decide) (by decide) (Nat.le_of_ble_eq_true rfl) (Nat.le_of_ble_eq_true rfl) dX7_init_71 (fun q9 => ?_)
  show Bt X 73 [(0, .ref h0)] [.ref q9, .ref h0] [(h0, .inr (7, [.int 0, .ref q1, .ref q2, .ref q3, .ref q4, .ref q5, .ref q6, .ref q7, .ref q8, .null, .null])), (q1, .inl ((biOf X).1, 21, .inl (fun _ => 0))), (q2, .inl ((biOf X).1, 21, .inl (fun _ => 0))), (q3, .inl ((biOf X).1, 21, .inl (fun _ => 0))), (q4, .inl ((biOf X).1, 21, .inl (fun _ => 0))), (q5, .inl ((biOf X).2.2.1, 21, .inl (fun _ => 0))), (q6, .inl ((biOf X).1, 32, .inl (fun _ => 0))), (q7, .inl ((biOf X).2.2.1, 32, .inl (fun _ => 0))), (q8, .inl ((biOf X).2.2.1, 64, .inl (fun _ => 0))), (q9, .inl ((biOf X).2.2.1, 16, .inl (fun _ => 0)))] 9 249
  refine e_putF (fs2 := [.int 0, .ref q1, .ref q2, .ref q3, .ref q4, .ref q5, .ref q6, .ref q7, .ref q8, .ref q9, .null]) C rfl inG7 tyX7 tyX7_ok nmX7 9 (by decide) (Nat.le_of_ble_eq_true rfl) rfl (tg 260 (by decide +kernel) rfl) rfl rfl rfl rfl rfl dX7_init_73 ?_
  refine e_aload C 0 rfl rfl dX7_init_76 ?_
  refine e_bipush (v := 16) C (by decide) dX7_init_77 ?_
  refine e_newI (N := 16) C (by decide) (by decide) (by decide) (Nat.le_of_ble_eq_true rfl) (Nat.le_of_ble_eq_true rfl) dX7_init_79 (fun q10 => ?_)
  show Bt X 81 [(0, .ref h0)] [.ref q10, .ref h0] [(h0, .inr (7, [.int 0, .ref q1, .ref q2, .ref q3, .ref q4, .ref q5, .ref q6, .ref q7, .ref q8, .ref q9, .null])), (q1, .inl ((biOf X).1, 21, .inl (fun _ => 0))), (q2, .inl ((biOf X).1, 21, .inl (fun _ => 0))), (q3, .inl ((biOf X).1, 21, .inl (fun _ => 0))), (q4, .inl ((biOf X).1, 21, .inl (fun _ => 0))), (q5, .inl ((biOf X).2.2.1, 21, .inl (fun _ => 0))), (q6, .inl ((biOf X).1, 32, .inl (fun _ => 0))), (q7, .inl ((biOf X).2.2.1, 32, .inl (fun _ => 0))), (q8, .inl ((biOf X).2.2.1, 64, .inl (fun _ => 0))), (q9, .inl ((biOf X).2.2.1, 16, .inl (fun _ => 0))), (q10, .inl ((biOf X).1, 16, .inl (fun _ => 0)))] 10 265
  refine e_putF (fs2 := [.int 0, .ref q1, .ref q2, .ref q3, .ref q4, .ref q5, .ref q6, .ref q7, .ref q8, .ref q9, .ref q10]) C rfl inG7 tyX7 tyX7_ok nmX7 10 (by decide) (Nat.le_of_ble_eq_true rfl) rfl (tg 266 (by decide +kernel) rfl) rfl rfl rfl rfl rfl dX7_init_81 ?_
  exact hret _ _ (fun k => [h0, q1, q2, q3, q4, q5, q6, q7, q8, q9, q10].getD k 0) rfl dX7_init_84
abbrev rmI_suS : Room := { frames := 1, cells := 8, slots := 428, locals := 14 }
theorem i_suS {l : Launch} {D : va_G} {I : ClassId × ClassId × ClassId × ClassId} {h0 : Nat} : CtI l D I nT yX4_init cX4_init 1 rmI_suS h0 [] (.inr (4, [.int 0, .int 0, .int 0, .int 0, .null, .null, .null, .null, .null, .null, .null, .null])) (fun a => pic 9 (suS I) a z0) := by
  refine ct_of (by decide) rfl (Nat.le_of_ble_eq_true rfl) (fun p e s m args below meth c Q A X hX C hN hret => ?_)
  have eI : I = biOf X := by subst hX; rfl
  rw [eI] at hret
  show Bt X 0 [(0, .ref h0)] [] [(h0, .inr (4, [.int 0, .int 0, .int 0, .int 0, .null, .null, .null, .null, .null, .null, .null, .null]))] 0 0
  refine e_aload C 0 rfl rfl dX4_init_0 ?_
  refine e_obj C (tg 148 (by decide +kernel) rfl) (Nat.le_of_ble_eq_true rfl) (Nat.le_of_ble_eq_true rfl) dX4_init_1 ?_
  refine e_aload C 0 rfl rfl dX4_init_4 ?_
  refine e_bipush (v := 32) C (by decide) dX4_init_5 ?_
  refine e_newI (N := 32) C (by decide) (by decide) (by decide) (Nat.le_of_ble_eq_true rfl) (Nat.le_of_ble_eq_true rfl) dX4_init_7 (fun q1 => ?_)
  show Bt X 9 [(0, .ref h0)] [.ref q1, .ref h0] [(h0, .inr (4, [.int 0, .int 0, .int 0, .int 0, .null, .null, .null, .null, .null, .null, .null, .null])), (q1, .inl ((biOf X).1, 32, .inl (fun _ => 0)))] 1 32
  refine e_putF (fs2 := [.int 0, .int 0, .int 0, .int 0, .ref q1, .null, .null, .null, .null, .null, .null, .null]) C rfl inG4 tyX4 tyX4_ok nmX4 4 (by decide) (Nat.le_of_ble_eq_true rfl) rfl (tg 169 (by decide +kernel) rfl) rfl rfl rfl rfl rfl dX4_init_9 ?_
  refine e_aload C 0 rfl rfl dX4_init_12 ?_
  refine e_bipush (v := 32) C (by decide) dX4_init_13 ?_
  refine e_newI (N := 32) C (by decide) (by decide) (by decide) (Nat.le_of_ble_eq_true rfl) (Nat.le_of_ble_eq_true rfl) dX4_init_15 (fun q2 => ?_)
  show Bt X 17 [(0, .ref h0)] [.ref q2, .ref h0] [(h0, .inr (4, [.int 0, .int 0, .int 0, .int 0, .ref q1, .null, .null, .null, .null, .null, .null, .null])), (q1, .inl ((biOf X).1, 32, .inl (fun _ => 0))), (q2, .inl ((biOf X).1, 32, .inl (fun _ => 0)))] 2 64
  refine e_putF (fs2 := [.int 0, .int 0, .int 0, .int 0, .ref q1, .ref q2, .null, .null, .null, .null, .null, .null]) C rfl inG4 tyX4 tyX4_ok nmX4 5 (by decide) (Nat.le_of_ble_eq_true rfl) rfl (tg 172 (by decide +kernel) rfl) rfl rfl rfl rfl rfl dX4_init_17 ?_
  refine e_aload C 0 rfl rfl dX4_init_20 ?_
  refine e_bipush (v := 32) C (by decide) dX4_init_21 ?_
  refine e_newI (N := 32) C (by decide) (by decide) (by decide) (Nat.le_of_ble_eq_true rfl) (Nat.le_of_ble_eq_true rfl) dX4_init_23 (fun q3 => ?_)
  show Bt X 25 [(0, .ref h0)] [.ref q3, .ref h0] [(h0, .inr (4, [.int 0, .int 0, .int 0, .int 0, .ref q1, .ref q2, .null, .null, .null, .null, .null, .null])), (q1, .inl ((biOf X).1, 32, .inl (fun _ => 0))), (q2, .inl ((biOf X).1, 32, .inl (fun _ => 0))), (q3, .inl ((biOf X).1, 32, .inl (fun _ => 0)))] 3 96
  refine e_putF (fs2 := [.int 0, .int 0, .int 0, .int 0, .ref q1, .ref q2, .ref q3, .null, .null, .null, .null, .null]) C rfl inG4 tyX4 tyX4_ok nmX4 6 (by decide) (Nat.le_of_ble_eq_true rfl) rfl (tg 175 (by decide +kernel) rfl) rfl rfl rfl rfl rfl dX4_init_25 ?_
  refine e_aload C 0 rfl rfl dX4_init_28 ?_
  refine e_bipush (v := 32) C (by decide) dX4_init_29 ?_
  refine e_newI (N := 32) C (by decide) (by decide) (by decide) (Nat.le_of_ble_eq_true rfl) (Nat.le_of_ble_eq_true rfl) dX4_init_31 (fun q4 => ?_)
  show Bt X 33 [(0, .ref h0)] [.ref q4, .ref h0] [(h0, .inr (4, [.int 0, .int 0, .int 0, .int 0, .ref q1, .ref q2, .ref q3, .null, .null, .null, .null, .null])), (q1, .inl ((biOf X).1, 32, .inl (fun _ => 0))), (q2, .inl ((biOf X).1, 32, .inl (fun _ => 0))), (q3, .inl ((biOf X).1, 32, .inl (fun _ => 0))), (q4, .inl ((biOf X).1, 32, .inl (fun _ => 0)))] 4 128
  refine e_putF (fs2 := [.int 0, .int 0, .int 0, .int 0, .ref q1, .ref q2, .ref q3, .ref q4, .null, .null, .null, .null]) C rfl inG4 tyX4 tyX4_ok nmX4 7 (by decide) (Nat.le_of_ble_eq_true rfl) rfl (tg 177 (by decide +kernel) rfl) rfl rfl rfl rfl rfl dX4_init_33 ?_
  refine e_aload C 0 rfl rfl dX4_init_36 ?_
  refine e_sipush (v := 256) C (by decide) dX4_init_37 ?_
  refine e_newI (N := 256) C (by decide) (by decide) (by decide) (Nat.le_of_ble_eq_true rfl) (Nat.le_of_ble_eq_true rfl) dX4_init_40 (fun q5 => ?_)
  show Bt X 42 [(0, .ref h0)] [.ref q5, .ref h0] [(h0, .inr (4, [.int 0, .int 0, .int 0, .int 0, .ref q1, .ref q2, .ref q3, .ref q4, .null, .null, .null, .null])), (q1, .inl ((biOf X).1, 32, .inl (fun _ => 0))), (q2, .inl ((biOf X).1, 32, .inl (fun _ => 0))), (q3, .inl ((biOf X).1, 32, .inl (fun _ => 0))), (q4, .inl ((biOf X).1, 32, .inl (fun _ => 0))), (q5, .inl ((biOf X).1, 256, .inl (fun _ => 0)))] 5 384
  refine e_putF (fs2 := [.int 0, .int 0, .int 0, .int 0, .ref q1, .ref q2, .ref q3, .ref q4, .ref q5, .null, .null, .null]) C rfl inG4 tyX4 tyX4_ok nmX4 8 (by decide) (Nat.le_of_ble_eq_true rfl) rfl (tg 180 (by decide +kernel) rfl) rfl rfl rfl rfl rfl dX4_init_42 ?_
  refine e_aload C 0 rfl rfl dX4_init_45 ?_
  refine e_bipush (v := 16) C (by decide) dX4_init_46 ?_
  refine e_newI (N := 16) C (by decide) (by decide) (by decide) (Nat.le_of_ble_eq_true rfl) (Nat.le_of_ble_eq_true rfl) dX4_init_48 (fun q6 => ?_)
  show Bt X 50 [(0, .ref h0)] [.ref q6, .ref h0] [(h0, .inr (4, [.int 0, .int 0, .int 0, .int 0, .ref q1, .ref q2, .ref q3, .ref q4, .ref q5, .null, .null, .null])), (q1, .inl ((biOf X).1, 32, .inl (fun _ => 0))), (q2, .inl ((biOf X).1, 32, .inl (fun _ => 0))), (q3, .inl ((biOf X).1, 32, .inl (fun _ => 0))), (q4, .inl ((biOf X).1, 32, .inl (fun _ => 0))), (q5, .inl ((biOf X).1, 256, .inl (fun _ => 0))), (q6, .inl ((biOf X).1, 16, .inl (fun _ => 0)))] 6 400
  refine e_putF (fs2 := [.int 0, .int 0, .int 0, .int 0, .ref q1, .ref q2, .ref q3, .ref q4, .ref q5, .ref q6, .null, .null]) C rfl inG4 tyX4 tyX4_ok nmX4 9 (by decide) (Nat.le_of_ble_eq_true rfl) rfl (tg 185 (by decide +kernel) rfl) rfl rfl rfl rfl rfl dX4_init_50 ?_
  refine e_aload C 0 rfl rfl dX4_init_53 ?_
  refine e_iconst (v := 4) C (by decide) dX4_init_54 ?_
  refine e_newI (N := 4) C (by decide) (by decide) (by decide) (Nat.le_of_ble_eq_true rfl) (Nat.le_of_ble_eq_true rfl) dX4_init_55 (fun q7 => ?_)
  show Bt X 57 [(0, .ref h0)] [.ref q7, .ref h0] [(h0, .inr (4, [.int 0, .int 0, .int 0, .int 0, .ref q1, .ref q2, .ref q3, .ref q4, .ref q5, .ref q6, .null, .null])), (q1, .inl ((biOf X).1, 32, .inl (fun _ => 0))), (q2, .inl ((biOf X).1, 32, .inl (fun _ => 0))), (q3, .inl ((biOf X).1, 32, .inl (fun _ => 0))), (q4, .inl ((biOf X).1, 32, .inl (fun _ => 0))), (q5, .inl ((biOf X).1, 256, .inl (fun _ => 0))), (q6, .inl ((biOf X).1, 16, .inl (fun _ => 0))), (q7, .inl ((biOf X).1, 4, .inl (fun _ => 0)))] 7 404
  refine e_putF (fs2 := [.int 0, .int 0, .int 0, .int 0, .ref q1, .ref q2, .ref q3, .ref q4, .ref q5, .ref q6, .ref q7, .null]) C rfl inG4 tyX4 tyX4_ok nmX4 10 (by decide) (Nat.le_of_ble_eq_true rfl) rfl (tg 188 (by decide +kernel) rfl) rfl rfl rfl rfl rfl dX4_init_57 ?_
  refine e_aload C 0 rfl rfl dX4_init_60 ?_
  refine e_bipush (v := 24) C (by decide) dX4_init_61 ?_
  refine e_newI (N := 24) C (by decide) (by decide) (by decide) (Nat.le_of_ble_eq_true rfl) (Nat.le_of_ble_eq_true rfl) dX4_init_63 (fun q8 => ?_)
  show Bt X 65 [(0, .ref h0)] [.ref q8, .ref h0] [(h0, .inr (4, [.int 0, .int 0, .int 0, .int 0, .ref q1, .ref q2, .ref q3, .ref q4, .ref q5, .ref q6, .ref q7, .null])), (q1, .inl ((biOf X).1, 32, .inl (fun _ => 0))), (q2, .inl ((biOf X).1, 32, .inl (fun _ => 0))), (q3, .inl ((biOf X).1, 32, .inl (fun _ => 0))), (q4, .inl ((biOf X).1, 32, .inl (fun _ => 0))), (q5, .inl ((biOf X).1, 256, .inl (fun _ => 0))), (q6, .inl ((biOf X).1, 16, .inl (fun _ => 0))), (q7, .inl ((biOf X).1, 4, .inl (fun _ => 0))), (q8, .inl ((biOf X).1, 24, .inl (fun _ => 0)))] 8 428
  refine e_putF (fs2 := [.int 0, .int 0, .int 0, .int 0, .ref q1, .ref q2, .ref q3, .ref q4, .ref q5, .ref q6, .ref q7, .ref q8]) C rfl inG4 tyX4 tyX4_ok nmX4 11 (by decide) (Nat.le_of_ble_eq_true rfl) rfl (tg 191 (by decide +kernel) rfl) rfl rfl rfl rfl rfl dX4_init_65 ?_
  exact hret _ _ (fun k => [h0, q1, q2, q3, q4, q5, q6, q7, q8].getD k 0) rfl dX4_init_68
abbrev rmI_tpS : Room := { frames := 1, cells := 1, slots := 1400, locals := 14 }
theorem i_tpS {l : Launch} {D : va_G} {I : ClassId × ClassId × ClassId × ClassId} {h0 : Nat} : CtI l D I nT yX8_init cX8_init 1 rmI_tpS h0 [] (.inr (8, [.null, .int 0])) (fun a => pic 2 (tpS I) a z0) := by
  refine ct_of (by decide) rfl (Nat.le_of_ble_eq_true rfl) (fun p e s m args below meth c Q A X hX C hN hret => ?_)
  have eI : I = biOf X := by subst hX; rfl
  rw [eI] at hret
  show Bt X 0 [(0, .ref h0)] [] [(h0, .inr (8, [.null, .int 0]))] 0 0
  refine e_aload C 0 rfl rfl dX8_init_0 ?_
  refine e_obj C (tg 321 (by decide +kernel) rfl) (Nat.le_of_ble_eq_true rfl) (Nat.le_of_ble_eq_true rfl) dX8_init_1 ?_
  refine e_aload C 0 rfl rfl dX8_init_4 ?_
  refine e_sipush (v := 1400) C (by decide) dX8_init_5 ?_
  refine e_newI (N := 1400) C (by decide) (by decide) (by decide) (Nat.le_of_ble_eq_true rfl) (Nat.le_of_ble_eq_true rfl) dX8_init_8 (fun q1 => ?_)
  show Bt X 10 [(0, .ref h0)] [.ref q1, .ref h0] [(h0, .inr (8, [.null, .int 0])), (q1, .inl ((biOf X).1, 1400, .inl (fun _ => 0)))] 1 1400
  refine e_putF (fs2 := [.ref q1, .int 0]) C rfl inG8 tyX8 tyX8_ok nmX8 0 (by decide) (Nat.le_of_ble_eq_true rfl) rfl (tg 322 (by decide +kernel) rfl) rfl rfl rfl rfl rfl dX8_init_10 ?_
  exact hret _ _ (fun k => [h0, q1].getD k 0) rfl dX8_init_13
abbrev rmI_rdS : Room := { frames := 1, cells := 0, slots := 0, locals := 14 }
theorem i_rdS {l : Launch} {D : va_G} {I : ClassId × ClassId × ClassId × ClassId} {t : Nat} {d : Nat} {h0 : Nat} : CtI l D I nT yX5_init cX5_init 3 rmI_rdS h0 [.ref t, .ref d] (.inr (5, [.null, .null, .int 0, .int 0, .int 0, .int 0])) (fun a => pic 1 (rdS I t d) a z0) := by
  refine ct_of (by decide) rfl (Nat.le_of_ble_eq_true rfl) (fun p e s m args below meth c Q A X hX C hN hret => ?_)
  have eI : I = biOf X := by subst hX; rfl
  rw [eI] at hret
  show Bt X 0 [(0, .ref h0), (1, .ref t), (2, .ref d)] [] [(h0, .inr (5, [.null, .null, .int 0, .int 0, .int 0, .int 0]))] 0 0
  refine e_aload C 0 rfl rfl dX5_init_0 ?_
  refine e_obj C (tg 336 (by decide +kernel) rfl) (Nat.le_of_ble_eq_true rfl) (Nat.le_of_ble_eq_true rfl) dX5_init_1 ?_
  refine e_aload C 0 rfl rfl dX5_init_4 ?_
  refine e_aload C 1 rfl rfl dX5_init_5 ?_
  refine e_putF (fs2 := [.ref t, .null, .int 0, .int 0, .int 0, .int 0]) C rfl inG5 tyX5 tyX5_ok nmX5 0 (by decide) (Nat.le_of_ble_eq_true rfl) rfl (tg 337 (by decide +kernel) rfl) rfl rfl rfl rfl rfl dX5_init_6 ?_
  refine e_aload C 0 rfl rfl dX5_init_9 ?_
  refine e_aload C 2 rfl rfl dX5_init_10 ?_
  refine e_putF (fs2 := [.ref t, .ref d, .int 0, .int 0, .int 0, .int 0]) C rfl inG5 tyX5 tyX5_ok nmX5 1 (by decide) (Nat.le_of_ble_eq_true rfl) rfl (tg 338 (by decide +kernel) rfl) rfl rfl rfl rfl rfl dX5_init_11 ?_
  exact hret _ _ (fun k => [h0].getD k 0) rfl dX5_init_14
abbrev rmI_spS : Room := { frames := 1, cells := 0, slots := 0, locals := 14 }
theorem i_spS {l : Launch} {D : va_G} {I : ClassId × ClassId × ClassId × ClassId} {u : Nat} {t : Nat} {h0 : Nat} : CtI l D I nT yX6_init cX6_init 3 rmI_spS h0 [.ref u, .ref t] (.inr (6, [.null, .null])) (fun a => pic 1 (spS I u t) a z0) := by
  refine ct_of (by decide) rfl (Nat.le_of_ble_eq_true rfl) (fun p e s m args below meth c Q A X hX C hN hret => ?_)
  have eI : I = biOf X := by subst hX; rfl
  rw [eI] at hret
  show Bt X 0 [(0, .ref h0), (1, .ref u), (2, .ref t)] [] [(h0, .inr (6, [.null, .null]))] 0 0
  refine e_aload C 0 rfl rfl dX6_init_0 ?_
  refine e_obj C (tg 362 (by decide +kernel) rfl) (Nat.le_of_ble_eq_true rfl) (Nat.le_of_ble_eq_true rfl) dX6_init_1 ?_
  refine e_aload C 0 rfl rfl dX6_init_4 ?_
  refine e_aload C 1 rfl rfl dX6_init_5 ?_
  refine e_putF (fs2 := [.ref u, .null]) C rfl inG6 tyX6 tyX6_ok nmX6 0 (by decide) (Nat.le_of_ble_eq_true rfl) rfl (tg 363 (by decide +kernel) rfl) rfl rfl rfl rfl rfl dX6_init_6 ?_
  refine e_aload C 0 rfl rfl dX6_init_9 ?_
  refine e_aload C 2 rfl rfl dX6_init_10 ?_
  refine e_putF (fs2 := [.ref u, .ref t]) C rfl inG6 tyX6 tyX6_ok nmX6 1 (by decide) (Nat.le_of_ble_eq_true rfl) rfl (tg 364 (by decide +kernel) rfl) rfl rfl rfl rfl rfl dX6_init_11 ?_
  exact hret _ _ (fun k => [h0].getD k 0) rfl dX6_init_14
abbrev rmI_flS : Room := { frames := 1, cells := 3, slots := 112, locals := 14 }
theorem i_flS {l : Launch} {D : va_G} {I : ClassId × ClassId × ClassId × ClassId} {u : Nat} {t : Nat} {h : Nat} {h0 : Nat} : CtI l D I nT yX0_init cX0_init 4 rmI_flS h0 [.ref u, .ref t, .ref h] (.inr (0, [.null, .null, .null, .null, .null, .null])) (fun a => pic 4 (flS I u t h) a z0) := by
  refine ct_of (by decide) rfl (Nat.le_of_ble_eq_true rfl) (fun p e s m args below meth c Q A X hX C hN hret => ?_)
  have eI : I = biOf X := by subst hX; rfl
  rw [eI] at hret
  show Bt X 0 [(0, .ref h0), (1, .ref u), (2, .ref t), (3, .ref h)] [] [(h0, .inr (0, [.null, .null, .null, .null, .null, .null]))] 0 0
  refine e_aload C 0 rfl rfl dX0_init_0 ?_
  refine e_obj C (tg 375 (by decide +kernel) rfl) (Nat.le_of_ble_eq_true rfl) (Nat.le_of_ble_eq_true rfl) dX0_init_1 ?_
  refine e_aload C 0 rfl rfl dX0_init_4 ?_
  refine e_bipush (v := 64) C (by decide) dX0_init_5 ?_
  refine e_newI (N := 64) C (by decide) (by decide) (by decide) (Nat.le_of_ble_eq_true rfl) (Nat.le_of_ble_eq_true rfl) dX0_init_7 (fun q1 => ?_)
  show Bt X 9 [(0, .ref h0), (1, .ref u), (2, .ref t), (3, .ref h)] [.ref q1, .ref h0] [(h0, .inr (0, [.null, .null, .null, .null, .null, .null])), (q1, .inl ((biOf X).1, 64, .inl (fun _ => 0)))] 1 64
  refine e_putF (fs2 := [.null, .null, .null, .ref q1, .null, .null]) C rfl inG0 tyX0 tyX0_ok nmX0 3 (by decide) (Nat.le_of_ble_eq_true rfl) rfl (tg 379 (by decide +kernel) rfl) rfl rfl rfl rfl rfl dX0_init_9 ?_
  refine e_aload C 0 rfl rfl dX0_init_12 ?_
  refine e_bipush (v := 32) C (by decide) dX0_init_13 ?_
  refine e_newI (N := 32) C (by decide) (by decide) (by decide) (Nat.le_of_ble_eq_true rfl) (Nat.le_of_ble_eq_true rfl) dX0_init_15 (fun q2 => ?_)
  show Bt X 17 [(0, .ref h0), (1, .ref u), (2, .ref t), (3, .ref h)] [.ref q2, .ref h0] [(h0, .inr (0, [.null, .null, .null, .ref q1, .null, .null])), (q1, .inl ((biOf X).1, 64, .inl (fun _ => 0))), (q2, .inl ((biOf X).1, 32, .inl (fun _ => 0)))] 2 96
  refine e_putF (fs2 := [.null, .null, .null, .ref q1, .ref q2, .null]) C rfl inG0 tyX0 tyX0_ok nmX0 4 (by decide) (Nat.le_of_ble_eq_true rfl) rfl (tg 381 (by decide +kernel) rfl) rfl rfl rfl rfl rfl dX0_init_17 ?_
  refine e_aload C 0 rfl rfl dX0_init_20 ?_
  refine e_bipush (v := 16) C (by decide) dX0_init_21 ?_
  refine e_newI (N := 16) C (by decide) (by decide) (by decide) (Nat.le_of_ble_eq_true rfl) (Nat.le_of_ble_eq_true rfl) dX0_init_23 (fun q3 => ?_)
  show Bt X 25 [(0, .ref h0), (1, .ref u), (2, .ref t), (3, .ref h)] [.ref q3, .ref h0] [(h0, .inr (0, [.null, .null, .null, .ref q1, .ref q2, .null])), (q1, .inl ((biOf X).1, 64, .inl (fun _ => 0))), (q2, .inl ((biOf X).1, 32, .inl (fun _ => 0))), (q3, .inl ((biOf X).1, 16, .inl (fun _ => 0)))] 3 112
  refine e_putF (fs2 := [.null, .null, .null, .ref q1, .ref q2, .ref q3]) C rfl inG0 tyX0 tyX0_ok nmX0 5 (by decide) (Nat.le_of_ble_eq_true rfl) rfl (tg 383 (by decide +kernel) rfl) rfl rfl rfl rfl rfl dX0_init_25 ?_
  refine e_aload C 0 rfl rfl dX0_init_28 ?_
  refine e_aload C 1 rfl rfl dX0_init_29 ?_
  refine e_putF (fs2 := [.ref u, .null, .null, .ref q1, .ref q2, .ref q3]) C rfl inG0 tyX0 tyX0_ok nmX0 0 (by decide) (Nat.le_of_ble_eq_true rfl) rfl (tg 376 (by decide +kernel) rfl) rfl rfl rfl rfl rfl dX0_init_30 ?_
  refine e_aload C 0 rfl rfl dX0_init_33 ?_
  refine e_aload C 2 rfl rfl dX0_init_34 ?_
  refine e_putF (fs2 := [.ref u, .ref t, .null, .ref q1, .ref q2, .ref q3]) C rfl inG0 tyX0 tyX0_ok nmX0 1 (by decide) (Nat.le_of_ble_eq_true rfl) rfl (tg 377 (by decide +kernel) rfl) rfl rfl rfl rfl rfl dX0_init_35 ?_
  refine e_aload C 0 rfl rfl dX0_init_38 ?_
  refine e_aload C 3 rfl rfl dX0_init_39 ?_
  refine e_putF (fs2 := [.ref u, .ref t, .ref h, .ref q1, .ref q2, .ref q3]) C rfl inG0 tyX0 tyX0_ok nmX0 2 (by decide) (Nat.le_of_ble_eq_true rfl) rfl (tg 378 (by decide +kernel) rfl) rfl rfl rfl rfl rfl dX0_init_40 ?_
  exact hret _ _ (fun k => [h0, q1, q2, q3].getD k 0) rfl dX0_init_43
abbrev rmI_grS : Room := { frames := 1, cells := 3, slots := 64, locals := 14 }
theorem i_grS {l : Launch} {D : va_G} {I : ClassId × ClassId × ClassId × ClassId} {u : Nat} {t : Nat} {h : Nat} {h0 : Nat} : CtI l D I nT yX1_init cX1_init 4 rmI_grS h0 [.ref u, .ref t, .ref h] (.inr (1, [.null, .null, .null, .null, .null, .null, .int 0])) (fun a => pic 4 (grS I u t h) a z0) := by
  refine ct_of (by decide) rfl (Nat.le_of_ble_eq_true rfl) (fun p e s m args below meth c Q A X hX C hN hret => ?_)
  have eI : I = biOf X := by subst hX; rfl
  rw [eI] at hret
  show Bt X 0 [(0, .ref h0), (1, .ref u), (2, .ref t), (3, .ref h)] [] [(h0, .inr (1, [.null, .null, .null, .null, .null, .null, .int 0]))] 0 0
  refine e_aload C 0 rfl rfl dX1_init_0 ?_
  refine e_obj C (tg 403 (by decide +kernel) rfl) (Nat.le_of_ble_eq_true rfl) (Nat.le_of_ble_eq_true rfl) dX1_init_1 ?_
  refine e_aload C 0 rfl rfl dX1_init_4 ?_
  refine e_bipush (v := 32) C (by decide) dX1_init_5 ?_
  refine e_newI (N := 32) C (by decide) (by decide) (by decide) (Nat.le_of_ble_eq_true rfl) (Nat.le_of_ble_eq_true rfl) dX1_init_7 (fun q1 => ?_)
  show Bt X 9 [(0, .ref h0), (1, .ref u), (2, .ref t), (3, .ref h)] [.ref q1, .ref h0] [(h0, .inr (1, [.null, .null, .null, .null, .null, .null, .int 0])), (q1, .inl ((biOf X).1, 32, .inl (fun _ => 0)))] 1 32
  refine e_putF (fs2 := [.null, .null, .null, .ref q1, .null, .null, .int 0]) C rfl inG1 tyX1 tyX1_ok nmX1 3 (by decide) (Nat.le_of_ble_eq_true rfl) rfl (tg 407 (by decide +kernel) rfl) rfl rfl rfl rfl rfl dX1_init_9 ?_
  refine e_aload C 0 rfl rfl dX1_init_12 ?_
  refine e_bipush (v := 16) C (by decide) dX1_init_13 ?_
  refine e_newI (N := 16) C (by decide) (by decide) (by decide) (Nat.le_of_ble_eq_true rfl) (Nat.le_of_ble_eq_true rfl) dX1_init_15 (fun q2 => ?_)
  show Bt X 17 [(0, .ref h0), (1, .ref u), (2, .ref t), (3, .ref h)] [.ref q2, .ref h0] [(h0, .inr (1, [.null, .null, .null, .ref q1, .null, .null, .int 0])), (q1, .inl ((biOf X).1, 32, .inl (fun _ => 0))), (q2, .inl ((biOf X).1, 16, .inl (fun _ => 0)))] 2 48
  refine e_putF (fs2 := [.null, .null, .null, .ref q1, .ref q2, .null, .int 0]) C rfl inG1 tyX1 tyX1_ok nmX1 4 (by decide) (Nat.le_of_ble_eq_true rfl) rfl (tg 408 (by decide +kernel) rfl) rfl rfl rfl rfl rfl dX1_init_17 ?_
  refine e_aload C 0 rfl rfl dX1_init_20 ?_
  refine e_bipush (v := 16) C (by decide) dX1_init_21 ?_
  refine e_newI (N := 16) C (by decide) (by decide) (by decide) (Nat.le_of_ble_eq_true rfl) (Nat.le_of_ble_eq_true rfl) dX1_init_23 (fun q3 => ?_)
  show Bt X 25 [(0, .ref h0), (1, .ref u), (2, .ref t), (3, .ref h)] [.ref q3, .ref h0] [(h0, .inr (1, [.null, .null, .null, .ref q1, .ref q2, .null, .int 0])), (q1, .inl ((biOf X).1, 32, .inl (fun _ => 0))), (q2, .inl ((biOf X).1, 16, .inl (fun _ => 0))), (q3, .inl ((biOf X).1, 16, .inl (fun _ => 0)))] 3 64
  refine e_putF (fs2 := [.null, .null, .null, .ref q1, .ref q2, .ref q3, .int 0]) C rfl inG1 tyX1 tyX1_ok nmX1 5 (by decide) (Nat.le_of_ble_eq_true rfl) rfl (tg 409 (by decide +kernel) rfl) rfl rfl rfl rfl rfl dX1_init_25 ?_
  refine e_aload C 0 rfl rfl dX1_init_28 ?_
  refine e_aload C 1 rfl rfl dX1_init_29 ?_
  refine e_putF (fs2 := [.ref u, .null, .null, .ref q1, .ref q2, .ref q3, .int 0]) C rfl inG1 tyX1 tyX1_ok nmX1 0 (by decide) (Nat.le_of_ble_eq_true rfl) rfl (tg 404 (by decide +kernel) rfl) rfl rfl rfl rfl rfl dX1_init_30 ?_
  refine e_aload C 0 rfl rfl dX1_init_33 ?_
  refine e_aload C 2 rfl rfl dX1_init_34 ?_
  refine e_putF (fs2 := [.ref u, .ref t, .null, .ref q1, .ref q2, .ref q3, .int 0]) C rfl inG1 tyX1 tyX1_ok nmX1 1 (by decide) (Nat.le_of_ble_eq_true rfl) rfl (tg 405 (by decide +kernel) rfl) rfl rfl rfl rfl rfl dX1_init_35 ?_
  refine e_aload C 0 rfl rfl dX1_init_38 ?_
  refine e_aload C 3 rfl rfl dX1_init_39 ?_
  refine e_putF (fs2 := [.ref u, .ref t, .ref h, .ref q1, .ref q2, .ref q3, .int 0]) C rfl inG1 tyX1 tyX1_ok nmX1 2 (by decide) (Nat.le_of_ble_eq_true rfl) rfl (tg 406 (by decide +kernel) rfl) rfl rfl rfl rfl rfl dX1_init_40 ?_
  exact hret _ _ (fun k => [h0, q1, q2, q3].getD k 0) rfl dX1_init_43
abbrev rmI_trS : Room := { frames := 1, cells := 0, slots := 0, locals := 14 }
theorem i_trS {l : Launch} {D : va_G} {I : ClassId × ClassId × ClassId × ClassId} {u : Nat} {t : Nat} {h : Nat} {f : Nat} {g : Nat} {h0 : Nat} : CtI l D I nT yX9_init cX9_init 6 rmI_trS h0 [.ref u, .ref t, .ref h, .ref f, .ref g] (.inr (9, [.null, .null, .null, .null, .null])) (fun a => pic 1 (trS I u t h f g) a z0) := by
  refine ct_of (by decide) rfl (Nat.le_of_ble_eq_true rfl) (fun p e s m args below meth c Q A X hX C hN hret => ?_)
  have eI : I = biOf X := by subst hX; rfl
  rw [eI] at hret
  show Bt X 0 [(0, .ref h0), (1, .ref u), (2, .ref t), (3, .ref h), (4, .ref f), (5, .ref g)] [] [(h0, .inr (9, [.null, .null, .null, .null, .null]))] 0 0
  refine e_aload C 0 rfl rfl dX9_init_0 ?_
  refine e_obj C (tg 433 (by decide +kernel) rfl) (Nat.le_of_ble_eq_true rfl) (Nat.le_of_ble_eq_true rfl) dX9_init_1 ?_
  refine e_aload C 0 rfl rfl dX9_init_4 ?_
  refine e_aload C 1 rfl rfl dX9_init_5 ?_
  refine e_putF (fs2 := [.ref u, .null, .null, .null, .null]) C rfl inG9 tyX9 tyX9_ok nmX9 0 (by decide) (Nat.le_of_ble_eq_true rfl) rfl (tg 434 (by decide +kernel) rfl) rfl rfl rfl rfl rfl dX9_init_6 ?_
  refine e_aload C 0 rfl rfl dX9_init_9 ?_
  refine e_aload C 2 rfl rfl dX9_init_10 ?_
  refine e_putF (fs2 := [.ref u, .ref t, .null, .null, .null]) C rfl inG9 tyX9 tyX9_ok nmX9 1 (by decide) (Nat.le_of_ble_eq_true rfl) rfl (tg 435 (by decide +kernel) rfl) rfl rfl rfl rfl rfl dX9_init_11 ?_
  refine e_aload C 0 rfl rfl dX9_init_14 ?_
  refine e_aload C 3 rfl rfl dX9_init_15 ?_
  refine e_putF (fs2 := [.ref u, .ref t, .ref h, .null, .null]) C rfl inG9 tyX9 tyX9_ok nmX9 2 (by decide) (Nat.le_of_ble_eq_true rfl) rfl (tg 436 (by decide +kernel) rfl) rfl rfl rfl rfl rfl dX9_init_16 ?_
  refine e_aload C 0 rfl rfl dX9_init_19 ?_
  refine e_aloadX C 4 rfl dX9_init_20 ?_
  refine e_putF (fs2 := [.ref u, .ref t, .ref h, .ref f, .null]) C rfl inG9 tyX9 tyX9_ok nmX9 3 (by decide) (Nat.le_of_ble_eq_true rfl) rfl (tg 437 (by decide +kernel) rfl) rfl rfl rfl rfl rfl dX9_init_22 ?_
  refine e_aload C 0 rfl rfl dX9_init_25 ?_
  refine e_aloadX C 5 rfl dX9_init_26 ?_
  refine e_putF (fs2 := [.ref u, .ref t, .ref h, .ref f, .ref g]) C rfl inG9 tyX9 tyX9_ok nmX9 4 (by decide) (Nat.le_of_ble_eq_true rfl) rfl (tg 438 (by decide +kernel) rfl) rfl rfl rfl rfl rfl dX9_init_28 ?_
  exact hret _ _ (fun k => [h0].getD k 0) rfl dX9_init_31
abbrev rmI_rpS : Room := { frames := 1, cells := 1, slots := 176, locals := 14 }
theorem i_rpS {l : Launch} {D : va_G} {I : ClassId × ClassId × ClassId × ClassId} {u : Nat} {t : Nat} {f : Nat} {h0 : Nat} : CtI l D I nT yX3_init cX3_init 4 rmI_rpS h0 [.ref u, .ref t, .ref f] (.inr (3, [.null, .null, .null, .null, .int 0])) (fun a => pic 2 (rpS I u t f) a z0) := by
  refine ct_of (by decide) rfl (Nat.le_of_ble_eq_true rfl) (fun p e s m args below meth c Q A X hX C hN hret => ?_)
  have eI : I = biOf X := by subst hX; rfl
  rw [eI] at hret
  show Bt X 0 [(0, .ref h0), (1, .ref u), (2, .ref t), (3, .ref f)] [] [(h0, .inr (3, [.null, .null, .null, .null, .int 0]))] 0 0
  refine e_aload C 0 rfl rfl dX3_init_0 ?_
  refine e_obj C (tg 455 (by decide +kernel) rfl) (Nat.le_of_ble_eq_true rfl) (Nat.le_of_ble_eq_true rfl) dX3_init_1 ?_
  refine e_aload C 0 rfl rfl dX3_init_4 ?_
  refine e_sipush (v := 176) C (by decide) dX3_init_5 ?_
  refine e_newI (N := 176) C (by decide) (by decide) (by decide) (Nat.le_of_ble_eq_true rfl) (Nat.le_of_ble_eq_true rfl) dX3_init_8 (fun q1 => ?_)
  show Bt X 10 [(0, .ref h0), (1, .ref u), (2, .ref t), (3, .ref f)] [.ref q1, .ref h0] [(h0, .inr (3, [.null, .null, .null, .null, .int 0])), (q1, .inl ((biOf X).1, 176, .inl (fun _ => 0)))] 1 176
  refine e_putF (fs2 := [.null, .null, .null, .ref q1, .int 0]) C rfl inG3 tyX3 tyX3_ok nmX3 3 (by decide) (Nat.le_of_ble_eq_true rfl) rfl (tg 459 (by decide +kernel) rfl) rfl rfl rfl rfl rfl dX3_init_10 ?_
  refine e_aload C 0 rfl rfl dX3_init_13 ?_
  refine e_aload C 1 rfl rfl dX3_init_14 ?_
  refine e_putF (fs2 := [.ref u, .null, .null, .ref q1, .int 0]) C rfl inG3 tyX3 tyX3_ok nmX3 0 (by decide) (Nat.le_of_ble_eq_true rfl) rfl (tg 456 (by decide +kernel) rfl) rfl rfl rfl rfl rfl dX3_init_15 ?_
  refine e_aload C 0 rfl rfl dX3_init_18 ?_
  refine e_aload C 2 rfl rfl dX3_init_19 ?_
  refine e_putF (fs2 := [.ref u, .ref t, .null, .ref q1, .int 0]) C rfl inG3 tyX3 tyX3_ok nmX3 1 (by decide) (Nat.le_of_ble_eq_true rfl) rfl (tg 457 (by decide +kernel) rfl) rfl rfl rfl rfl rfl dX3_init_20 ?_
  refine e_aload C 0 rfl rfl dX3_init_23 ?_
  refine e_aload C 3 rfl rfl dX3_init_24 ?_
  refine e_putF (fs2 := [.ref u, .ref t, .ref f, .ref q1, .int 0]) C rfl inG3 tyX3 tyX3_ok nmX3 2 (by decide) (Nat.le_of_ble_eq_true rfl) rfl (tg 458 (by decide +kernel) rfl) rfl rfl rfl rfl rfl dX3_init_25 ?_
  exact hret _ _ (fun k => [h0, q1].getD k 0) rfl dX3_init_28
