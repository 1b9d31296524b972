/-! ===== BASE: the state as rows of numbers, the picture of the cells, the judgement At, its rows ===== -/
def lw_tg : List Cond := lw_tbl.filter goodWord
theorem lw_good : ∀ w ∈ lw_tg, goodWord w = true := fun w h => (List.mem_filter.mp h).2
theorem tg {w : Cond} (i : Nat) (h : lw_tbl[i]? = some w) (hg : goodWord w = true) : w ∈ lw_tg := List.mem_filter.mpr ⟨List.mem_of_getElem? h, hg⟩
theorem tgs {ws : List Cond} (h : ∀ w ∈ ws, w ∈ lw_tbl) (hg : ws.all goodWord = true) : ∀ w ∈ ws, w ∈ lw_tg := fun w hw => List.mem_filter.mpr ⟨h w hw, List.all_eq_true.mp hg w hw⟩
theorem inG0 : ∀ w ∈ wsX00, w ∈ lw_tg := tgs inX0 (by decide +kernel)
theorem inG1 : ∀ w ∈ wsX10, w ∈ lw_tg := tgs inX1 (by decide +kernel)
theorem inG2 : ∀ w ∈ wsX20, w ∈ lw_tg := tgs inX2 (by decide +kernel)
theorem inG3 : ∀ w ∈ wsX30, w ∈ lw_tg := tgs inX3 (by decide +kernel)
theorem inG4 : ∀ w ∈ wsX40, w ∈ lw_tg := tgs inX4 (by decide +kernel)
theorem inG5 : ∀ w ∈ wsX50, w ∈ lw_tg := tgs inX5 (by decide +kernel)
theorem inG6 : ∀ w ∈ wsX60, w ∈ lw_tg := tgs inX6 (by decide +kernel)
theorem inG7 : ∀ w ∈ wsX70, w ∈ lw_tg := tgs inX7 (by decide +kernel)
theorem inG8 : ∀ w ∈ wsX80, w ∈ lw_tg := tgs inX8 (by decide +kernel)
theorem inG9 : ∀ w ∈ wsX90, w ∈ lw_tg := tgs inX9 (by decide +kernel)
theorem inG10 : ∀ w ∈ wsX100, w ∈ lw_tg := tgs inX10 (by decide +kernel)
theorem inG11 : ∀ w ∈ wsX110, w ∈ lw_tg := tgs inX11 (by decide +kernel)
theorem gd_code {y : MethodName} {b : ByteArray} {n : Nat} {r : Option FieldType} (h : Cond.code y b n r ∈ lw_tg) : GoodIn lw_tg (Cond.code y b n r :: lw_tg) := fun w hw => (List.mem_cons.mp hw).elim (fun e => by subst e; exact ⟨h, good_of_word (lw_good _ h)⟩) (fun h => ⟨h, good_of_word (lw_good _ h)⟩)
theorem gd_V {own C : String} {idx : Nat} {y : MethodName} {b : ByteArray} {n : Nat} {r : Option FieldType} (h1 : Cond.methodLink own idx y ∈ lw_tg) (h2 : Cond.instanceMethod y ∈ lw_tg) (h3 : Cond.selects C y y ∈ lw_tg) (h4 : Cond.initialized C ∈ lw_tg) (h : Cond.code y b n r ∈ lw_tg) : GoodIn lw_tg (wsV own idx C y (Cond.code y b n r :: lw_tg)) := by
  intro w hw
  rcases List.mem_append.mp hw with hw | hw
  · have : w ∈ lw_tg := by
      simp only [List.mem_cons, List.not_mem_nil, or_false] at hw
      rcases hw with rfl | rfl | rfl | rfl <;> assumption
    exact ⟨this, good_of_word (lw_good _ this)⟩
  · exact gd_code h w hw
theorem gd_S {own : String} {idx : Nat} {y : MethodName} {b : ByteArray} {n : Nat} {r : Option FieldType} (h1 : Cond.methodLink own idx y ∈ lw_tg) (h2 : Cond.static y ∈ lw_tg) (h4 : Cond.initialized own ∈ lw_tg) (h : Cond.code y b n r ∈ lw_tg) : GoodIn lw_tg (wsS own idx y (Cond.code y b n r :: lw_tg)) := by
  intro w hw
  rcases List.mem_append.mp hw with hw | hw
  · have : w ∈ lw_tg := by
      simp only [List.mem_cons, List.not_mem_nil, or_false] at hw
      rcases hw with rfl | rfl | rfl <;> assumption
    exact ⟨this, good_of_word (lw_good _ this)⟩
  · exact gd_code h w hw
/-- a state: rows of numbers by the cells' places, and one long -/
abbrev St : Type := (Nat → Nat → Int32) × Int64
abbrev Sh : Type := (Nat → Nat) → Nat → (Nat → Int32) → Int64 → va_E
def pic (n : Nat) (sh : Sh) (ad : Nat → Nat) (q : St) : va_W := (List.range n).map (fun k => (ad k, sh ad k (q.1 k) q.2))
theorem pic_get {n : Nat} {sh : Sh} {ad : Nat → Nat} {q : St} {k : Nat} (h : k < n) : (pic n sh ad q)[k]? = some (ad k, sh ad k (q.1 k) q.2) := by
  simp [pic, h]
theorem pic_some {n : Nat} {sh : Sh} {ad : Nat → Nat} {q : St} {k : Nat} {z : Nat × va_E} (h : (pic n sh ad q)[k]? = some z) : k < n ∧ z = (ad k, sh ad k (q.1 k) q.2) := by
  by_cases hk : k < n
  · rw [pic_get hk] at h
    exact ⟨hk, (Option.some.inj h).symm⟩
  · simp [pic, hk] at h
def gt (q : St) (k i : Nat) : Int32 := q.1 k i
def rw_ (q : St) (k : Nat) (f : Nat → Int32) : St := (fun a => if a = k then f else q.1 a, q.2)
def st (q : St) (k i : Nat) (v : Int32) : St := rw_ q k (upd (q.1 k) i v)
def stw (q : St) (w : Int64) : St := (q.1, w)
theorem pic_set {n : Nat} {sh : Sh} {ad : Nat → Nat} {q : St} {k : Nat} {f : Nat → Int32} (_h : k < n) : (pic n sh ad q).set k (ad k, sh ad k f q.2) = pic n sh ad (rw_ q k f) := by
  apply List.ext_getElem?
  intro j
  by_cases hj : j < n
  · by_cases hk : k = j
    · subst hk
      rw [pic_get hj, List.getElem?_set_self (by simp [pic]; exact hj)]
      simp [rw_]
    · rw [pic_get hj, List.getElem?_set_ne hk, pic_get hj]
      have : ¬ j = k := fun e => hk e.symm
      simp [rw_, this]
  · have h1 : (pic n sh ad (rw_ q k f))[j]? = none := by simp [pic, hj]
    have h2 : ((pic n sh ad q).set k (ad k, sh ad k f q.2))[j]? = none := by
      apply List.getElem?_eq_none
      simp [pic]; omega
    rw [h1, h2]
def Inj (ad : Nat → Nat) (n : Nat) : Prop := ∀ i j, i < n → j < n → ad i = ad j → i = j
def In (ad : Nat → Nat) (n : Nat) : Nat → Prop := fun q => ∃ k, k < n ∧ ad k = q
theorem pic_D {n : Nat} {sh : Sh} {ad : Nat → Nat} {q : St} (h : Inj ad n) : va_D (In ad n) (pic n sh ad q) := by
  refine ⟨fun i j a b hi hj e => ?_, fun k z hk => ?_⟩
  · obtain ⟨h1, rfl⟩ := pic_some hi
    obtain ⟨h2, rfl⟩ := pic_some hj
    exact h i j h1 h2 e
  · obtain ⟨h1, rfl⟩ := pic_some hk
    exact ⟨k, h1, rfl⟩
/-- the fixed things of a walk: p l e R s m args below meth c Q, the classes' data, the arrays' classes, the picture's size, shape and addresses, the heap at the start, the locals -/
abbrev Cv : Type := Program × Launch × Env × Room × State × MethodId × Array Value × List Frame × Method × Code × (State → Prop) × va_G × (ClassId × ClassId × ClassId × ClassId) × Nat × Sh × (Nat → Nat) × Heap × Nat × (State → Prop)
def tysL (I : ClassId × ClassId × ClassId × ClassId) : List (ClassId × FieldType) := [(I.1, .int), (I.2.1, .byte), (I.2.2.1, .boolean), (I.2.2.2, .object "LayeredMulticast$State")]
def wd (D : va_G) (n : Nat) (sh : Sh) (ad : Nat → Nat) (H0 : Heap) (q : St) (H : Heap) (locs : List Loc) : Prop := va_P D vwCl (pic n sh ad q) H ∧ va_S (In ad n) H0 H locs
/-- what else a contract may take as given of the start: kept by what happens to the picture's cells -/
def ZS (Z : State → Prop) (A : Nat → Prop) : Prop := (∀ s U : State, Z s → s.WarmedH U.vm → (∀ a : Nat, a < s.heap.size → ¬ A a → U.heap[a]? = s.heap[a]?) → Z U) ∧ ∀ (U : State) (g : JFrame) (mk : MethodId) (a : Array Value), Z U → Z (U.calling g mk a)
def zT : State → Prop := fun _ => True
theorem zT_ok {A : Nat → Prop} : ZS zT A := ⟨fun _ _ _ _ _ => trivial, fun _ _ _ _ _ => trivial⟩
def At (X : Cv) (pc : Nat) (lv : List (Nat × Value)) (sk : List Value) (q : St) : Prop := match X with
  | (p, l, e, R, s, m, args, below, meth, c, Q, D, _, n, sh, ad, H0, nL, _) => ∀ (H : Heap) (locs : List Loc) (ls : Array Slot), wd D n sh ad H0 q H locs → lv_has ls nL lv → W p l e R s m args below meth c H locs 0 0 Q (F0 m pc ls sk)
def Cx (X : Cv) (cc : ByteArray) (own : String) (rm : Room) (nL1 : Nat) : Prop := match X with
  | (p, _, _, R, s, m, args, _, _, c, _, D, I, n, _, ad, H0, nL, Z) => CallFix p m c cc nL s args lw_tg own ∧ va_K D vwCl (tysL I) s ∧ Inj ad n ∧ R = rm ∧ nL = nL1 ∧ H0 = s.heap ∧ ZS Z (In ad n) ∧ Z s
/-- what a return does: with this answer and this state -/
def RokI (X : Cv) (cc : ByteArray) (ty : FieldType) (r : Int32) (q : St) : Prop := ∀ (pc : Nat) (lv : List (Nat × Value)), narrow ty (.int r) = .int r → decode cc pc = .ok (.ireturn, 1) → At X pc lv [.int r] q
def RokV (X : Cv) (cc : ByteArray) (q : St) : Prop := ∀ (pc : Nat) (lv : List (Nat × Value)), decode cc pc = .ok (.return_, 1) → At X pc lv [] q
abbrev nOf (X : Cv) : Nat := X.2.2.2.2.2.2.2.2.2.2.2.2.2.1
abbrev shOf (X : Cv) : Sh := X.2.2.2.2.2.2.2.2.2.2.2.2.2.2.1
abbrev adOf (X : Cv) : Nat → Nat := X.2.2.2.2.2.2.2.2.2.2.2.2.2.2.2.1
abbrev idOf (X : Cv) : ClassId × ClassId × ClassId × ClassId := X.2.2.2.2.2.2.2.2.2.2.2.2.1
abbrev zOf (X : Cv) : State → Prop := X.2.2.2.2.2.2.2.2.2.2.2.2.2.2.2.2.2.2
abbrev dOf (X : Cv) : va_G := X.2.2.2.2.2.2.2.2.2.2.2.1
/-- a method's contract over a picture: no cell comes, the answer is o, the state q becomes q2 -/
def Ctr (l : Launch) (D : va_G) (I : ClassId × ClassId × ClassId × ClassId) (Z : State → Prop) (n : Nat) (sh : Sh) (ad : Nat → Nat) (y : MethodName) (cc : ByteArray) (nL : Nat) (ret : Option FieldType) (rm : Room) (as : List Value) (q : St) (o : Option Int32) (q2 : St) : Prop :=
  Met l y (Cond.code y cc nL ret :: lw_tg) rm (va_Pc as (fun U => (Inj ad n ∧ ZS Z (In ad n) ∧ Z U) ∧ va_P D vwCl (pic n sh ad q) U.heap ∧ va_K D vwCl (tysL I) U))
    (match o with
      | some r0 => va_Qi (fun (r : Int32) (_ : Unit) => r = r0) (fun _ t => va_P D vwCl (pic n sh ad q2) t.heap) (In ad n)
      | none => va_Qv (fun (_ : Unit) => True) (fun _ t => va_P D vwCl (pic n sh ad q2) t.heap) (In ad n)) 0 0 (In ad n)
theorem At.sub {X : Cv} {pc : Nat} {lv lv2 : List (Nat × Value)} {sk : List Value} {q : St} (ks : List Nat) (h : lv_pick lv ks = lv2) (k : At X pc lv2 sk q) : At X pc lv sk q := by
  obtain ⟨p, l, e, R, s, m, args, below, meth, c, Q, D, I, n, sh, ad, H0, nL, Z⟩ := X
  exact fun H locs ls w hl => k H locs ls w (lv_sub hl ks h)
/-- a method is met if its body, walked from its entry, comes to a return -/
theorem ctr_ofI {l : Launch} {D : va_G} {I : ClassId × ClassId × ClassId × ClassId} {Z : State → Prop} {n : Nat} {sh : Sh} {ad : Nat → Nat} {y : MethodName} {cc : ByteArray} {nL : Nat} {ty : FieldType} {r : Int32} {rm : Room} {as : List Value} {q : St} {q2 : St}
    (hy : plainName y.cls = true) (hla : (lg_sl as).length ≤ nL)
    (body : ∀ (p : Program) (e : Env) (s : State) (m : MethodId) (args : Array Value) (below : List Frame) (meth : Method) (c : Code) (Q : State → Prop) (H0 : Heap) (X : Cv), X = (p, l, e, rm, s, m, args, below, meth, c, Q, D, I, n, sh, ad, H0, nL, Z) → Cx X cc y.cls rm nL → RokI X cc ty r q2 → At X 0 (lv_args 0 as) [] q) :
    Ctr l D I Z n sh ad y cc nL (some ty) rm as q (some r) q2 := by
  refine Met.ofW (cc := cc) (maxL := nL) (ret := (some ty)) hy rfl ?_
  intro p e s m args below meth c s₁ B hml hv
  obtain ⟨rfl, ⟨hinj, hZS, hZ⟩, hP, hK⟩ := hv
  have hx := B.exec
  have hb := B.bytes
  have hr := B.returns
  have hlocks := B.notSynchronized
  have hts := atoms_spec (ws := Cond.code y cc nL (some ty) :: lw_tg) B.pre
  have hown : s.vm.findClass y.cls = some m.cls := findClass_of_methodNamed B.named
  have hl := lv_entry as (n := nL) hla
  rw [lg_entry_eq]
  generalize (lg_sl as ++ List.replicate (nL - (lg_sl as).length) Slot.unset).toArray = ls at hl ⊢
  refine body p e s m as.toArray below meth c _ s.heap _ rfl ⟨⟨hx, hb, hml, hown, fun w h => hts w (List.mem_cons_of_mem _ h)⟩, hK, hinj, rfl, rfl, rfl, hZS, hZ⟩ ?_ s.heap [] ls ⟨hP, va_S.rf⟩ hl
  intro pc lv hn hd H locs ls w _
  exact W.zret hx hb hr hn (fun t ht hW => ⟨⟨r, (), rfl, rfl, by show va_P _ _ _ t.heap; rw [ht]; exact w.1⟩, w.2.F ht⟩) w.2.2.2 hd
/-- a method is met if its body, walked from its entry, comes to a return -/
theorem ctr_ofV {l : Launch} {D : va_G} {I : ClassId × ClassId × ClassId × ClassId} {Z : State → Prop} {n : Nat} {sh : Sh} {ad : Nat → Nat} {y : MethodName} {cc : ByteArray} {nL : Nat}  {rm : Room} {as : List Value} {q : St} {q2 : St}
    (hy : plainName y.cls = true) (hla : (lg_sl as).length ≤ nL)
    (body : ∀ (p : Program) (e : Env) (s : State) (m : MethodId) (args : Array Value) (below : List Frame) (meth : Method) (c : Code) (Q : State → Prop) (H0 : Heap) (X : Cv), X = (p, l, e, rm, s, m, args, below, meth, c, Q, D, I, n, sh, ad, H0, nL, Z) → Cx X cc y.cls rm nL → RokV X cc q2 → At X 0 (lv_args 0 as) [] q) :
    Ctr l D I Z n sh ad y cc nL none rm as q none q2 := by
  refine Met.ofW (cc := cc) (maxL := nL) (ret := none) hy rfl ?_
  intro p e s m args below meth c s₁ B hml hv
  obtain ⟨rfl, ⟨hinj, hZS, hZ⟩, hP, hK⟩ := hv
  have hx := B.exec
  have hb := B.bytes
  have hr := B.returns
  have hlocks := B.notSynchronized
  have hts := atoms_spec (ws := Cond.code y cc nL none :: lw_tg) B.pre
  have hown : s.vm.findClass y.cls = some m.cls := findClass_of_methodNamed B.named
  have hl := lv_entry as (n := nL) hla
  rw [lg_entry_eq]
  generalize (lg_sl as ++ List.replicate (nL - (lg_sl as).length) Slot.unset).toArray = ls at hl ⊢
  refine body p e s m as.toArray below meth c _ s.heap _ rfl ⟨⟨hx, hb, hml, hown, fun w h => hts w (List.mem_cons_of_mem _ h)⟩, hK, hinj, rfl, rfl, rfl, hZS, hZ⟩ ?_ s.heap [] ls ⟨hP, va_S.rf⟩ hl
  intro pc lv hd H locs ls w _
  exact W.vret hx hb hr (fun t ht hW => ⟨⟨(), rfl, trivial, by show va_P _ _ _ t.heap; rw [ht]; exact w.1⟩, w.2.F ht⟩) w.2.2.2 hd
