/-! the words of the tables that stay true whatever is linked; the links of nest mates -/
def bw : List Cond := lw_tbl.filter goodWord
theorem bw_of {w : Cond} (h : w ∈ lw_tbl) (g : goodWord w = true) : w ∈ bw := List.mem_filter.mpr ⟨h, g⟩
theorem bw_t {w : Cond} (h : w ∈ tables_1) (g : goodWord w = true) : w ∈ bw := bw_of (List.mem_append_right _ h) g
theorem bw_0 {w : Cond} (i : Nat) (h : (k2_sels lw_privs)[i]? = some w) (g : goodWord w = true) : w ∈ bw := bw_of (List.mem_append_left _ (List.mem_of_getElem? h)) g
theorem bw_1 {w : Cond} (i : Nat) (h : tables_1_1[i]? = some w) (g : goodWord w = true) : w ∈ bw := bw_t (List.mem_append_left _ (List.mem_of_getElem? h)) g
theorem bw_2 {w : Cond} (i : Nat) (h : tables_1_2[i]? = some w) (g : goodWord w = true) : w ∈ bw := bw_t (List.mem_append_right _ (List.mem_append_left _ (List.mem_of_getElem? h))) g
theorem bw_3 {w : Cond} (i : Nat) (h : tables_1_3[i]? = some w) (g : goodWord w = true) : w ∈ bw := bw_t (List.mem_append_right _ (List.mem_append_right _ (List.mem_append_left _ (List.mem_of_getElem? h)))) g
theorem bw_4 {w : Cond} (i : Nat) (h : tables_1_4[i]? = some w) (g : goodWord w = true) : w ∈ bw := bw_t (List.mem_append_right _ (List.mem_append_right _ (List.mem_append_right _ (List.mem_append_left _ (List.mem_of_getElem? h))))) g
theorem bw_5 {w : Cond} (i : Nat) (h : tables_1_5[i]? = some w) (g : goodWord w = true) : w ∈ bw := bw_t (List.mem_append_right _ (List.mem_append_right _ (List.mem_append_right _ (List.mem_append_right _ (List.mem_of_getElem? h))))) g
theorem bw_good {w : Cond} (h : w ∈ bw) : (w.onTables && w.keeps) = true ∨ ∃ ty, w = .arrayClass ty := good_of_word (List.mem_filter.mp h).2
abbrev nk : Type := String × Nat × MethodName × String
def nw : nk → Cond := fun q => .methodLinkNest q.1 q.2.1 q.2.2.1 q.2.2.2
def nl : List nk := [("TideAsked", 9, ⟨"TideAsked$Page", "<init>", "()V"⟩, "TideAsked"), ("TideAsked", 18, ⟨"TideAsked$Reading", "<init>", "()V"⟩, "TideAsked"), ("TideAsked$Reading", 11, ⟨"TideAsked$Shore", "<init>", "()V"⟩, "TideAsked"), ("TideAsked$Shore", 35, ⟨"TideAsked$Sea", "<init>", "()V"⟩, "TideAsked"), ("TideAsked", 25, ⟨"TideAsked$Shore", "<init>", "()V"⟩, "TideAsked"), ("TideAsked", 35, ⟨"TideAsked$Orders", "<init>", "()V"⟩, "TideAsked"), ("TideAsked$Orders", 11, ⟨"TideAsked$Sea", "<init>", "()V"⟩, "TideAsked"), ("TideAsked", 42, ⟨"TideAsked$Fewest", "<init>", "()V"⟩, "TideAsked"), ("TideAsked$Fewest", 11, ⟨"TideAsked$Sea", "<init>", "()V"⟩, "TideAsked"), ("TideAsked", 49, ⟨"TideAsked$Chances", "<init>", "()V"⟩, "TideAsked"), ("TideAsked$Chances", 9, ⟨"TideAsked$Sea", "<init>", "()V"⟩, "TideAsked"), ("TideAsked", 56, ⟨"TideAsked$Guess", "<init>", "()V"⟩, "TideAsked"), ("TideAsked$Guess", 11, ⟨"TideAsked$Sea", "<init>", "()V"⟩, "TideAsked"), ("TideAsked", 63, ⟨"TideAsked$Seasons", "<init>", "()V"⟩, "TideAsked"), ("TideAsked$Seasons", 9, ⟨"TideAsked$Sea", "<init>", "()V"⟩, "TideAsked"), ("TideAsked$Reading", 70, ⟨"TideAsked", "isDigit", "(I)Z"⟩, "TideAsked"), ("TideAsked$Reading", 85, ⟨"TideAsked", "isKind", "(I)Z"⟩, "TideAsked"), ("TideAsked$Guess", 63, ⟨"TideAsked", "isTide", "(I)Z"⟩, "TideAsked")]
def EvP (D : va_G) (cy : ClassId) (U : State) : Prop := va_K D vwCl [(cy, .int)] U ∧ ∀ q ∈ nl, va_Nw (nw q) U
theorem EvP.warm {D : va_G} {cy : ClassId} {s U : State} (hW : s.WarmedH U.vm) (h : EvP D cy s) : EvP D cy U := ⟨va_K.moved hW.alike h.1, fun q hq => va_Nw.warmM hW (h.2 q hq)⟩
theorem EvP.call {D : va_G} {cy : ClassId} {U : State} {g : JFrame} {mk : MethodId} {a : Array Value} (h : EvP D cy U) : EvP D cy (U.calling g mk a) := ⟨va_K.moved (u := U) (U := U.calling g mk a) (Vm.Alike.refl U.vm) h.1, fun q hq => va_Nw.same (u := U) (U := U.calling g mk a) rfl rfl (h.2 q hq)⟩
/-- a contract: from the cells w0 and the arguments av the method ends, with an u of Qp: its answer is r u, its cells are w1 u; nothing else of what was there has changed -/
def Ct {σ : Type} (l : Launch) (D : va_G) (cy : ClassId) (y : MethodName) (cc : ByteArray) (nL : Nat) (ret : Option FieldType) (rm : Room) (av : List Value) (w0 : va_W) (Qp : σ → Prop) (r : σ → Option Value) (w1 : σ → va_W) : Prop :=
  ∀ sz : Nat, Met l y (Cond.code y cc nL ret :: bw) rm (va_Pc av (fun U => U.heap.size = sz ∧ va_P D vwCl w0 U.heap ∧ EvP D cy U ∧ va_D (fun _ => True) w0)) (fun _ st oc t => (∃ u : σ, Qp u ∧ oc = .returned (r u) ∧ va_P D vwCl (w1 u) t.heap ∧ va_D (va_A w0 sz) (w1 u)) ∧ va_F (va_A w0 sz) st t) rm.cells rm.slots (va_A w0 sz)
abbrev Gt : Type := va_W → List (Nat × Value) → Nat → List Value → Prop
/-- from the cells ws, the locals lv, at pc with the stack st, the machine comes to Q -/
def Jd (p : Program) (l : Launch) (e : Env) (R : Room) (s : State) (m : MethodId) (args : Array Value) (below : List Frame) (meth : Method) (c : Code) (A : Nat → Prop) (D : va_G) (nL cells slots : Nat) (Q : State → Prop) : Gt :=
  fun ws lv pc st => ∀ (H : Heap) (locs : List Loc) (ls : Array Slot), va_P D vwCl ws H → va_D A ws → va_S A s.heap H locs → lv_has ls nL lv → W p l e R s m args below meth c H locs cells slots Q (F0 m pc ls st)
def Cx (p : Program) (s : State) (m : MethodId) (args : Array Value) (c : Code) (A : Nat → Prop) (D : va_G) (cy : ClassId) (cc : ByteArray) (nL : Nat) (own : String) : Prop :=
  p.tables.exec = Jvm.exec ∧ c.code = cc ∧ c.maxLocals = nL ∧ s.vm.findClass own = some m.cls ∧ (∀ w ∈ bw, w.before args s = true) ∧ EvP D cy s ∧ ∀ q, s.heap.size ≤ q → A q
def Mh (l : Launch) (D : va_G) (cy : ClassId) (cc : ByteArray) (nL : Nat) (own : String) (R : Room) (cells slots : Nat) (G : Gt) : Prop :=
  ∃ (p : Program) (e : Env) (s : State) (m : MethodId) (args : Array Value) (below : List Frame) (meth : Method) (c : Code) (A : Nat → Prop) (Q : State → Prop), Cx p s m args c A D cy cc nL own ∧ G = Jd p l e R s m args below meth c A D nL cells slots Q
/-- field facts -/
def Fq (own : String) (index ci k : Nat) : Prop := ∃ (C : String) (T : u_T) (N : Nat), (∀ w ∈ u_ws C T N, w ∈ bw) ∧ vwCl[ci]? = some (C, T, N) ∧ k < N ∧ Cond.fieldLink own index (T k).1 (T k).2.1 (T k).2.2.1 ∈ bw
def Fp (own : String) (index ci k : Nat) (fin : Bool) (ty : FieldType) : Prop := ∃ (C : String) (T : u_T) (N : Nat) (ty0 : Nat → FieldType), (∀ w ∈ u_ws C T N, w ∈ bw) ∧ vwCl[ci]? = some (C, T, N) ∧ k < N ∧ Cond.fieldLink own index (T k).1 (T k).2.1 (T k).2.2.1 ∈ bw ∧ (∀ k, k < N → parseFieldDescriptor (T k).2.2.1 = some (ty0 k)) ∧ (∀ a, a < N → ∀ b, b < N → a ≠ b → (T a).2.1 ≠ (T b).2.1) ∧ (T k).2.2.2 = fin ∧ parseFieldDescriptor (T k).2.2.1 = some ty ∧ (fin = true → (T k).1 = own)
/-- call facts: of an instance method, a static one; ..N of a nest mate's -/
def Cd (y : MethodName) (cc : ByteArray) (nL : Nat) (ret : Option FieldType) (n : Nat) : Prop := Cond.code y cc nL ret ∈ bw ∧ Cond.initialized y.cls ∈ bw ∧ (y.cls ≠ "java/lang/invoke/MethodHandle" ∧ y.cls ≠ "java/lang/invoke/VarHandle" ∧ (parseMethodDescriptor y.desc).map (fun d => d.parameters.length) = some n)
def CVf (own : String) (index : Nat) (y : MethodName) (cc : ByteArray) (nL : Nat) (ret : Option FieldType) (n : Nat) : Prop := Cd y cc nL ret n ∧ Cond.methodLink own index y ∈ bw ∧ Cond.instanceMethod y ∈ bw ∧ Cond.selects y.cls y y ∈ bw
def CSf (own : String) (index : Nat) (y : MethodName) (cc : ByteArray) (nL : Nat) (ret : Option FieldType) (n : Nat) : Prop := Cd y cc nL ret n ∧ Cond.methodLink own index y ∈ bw ∧ Cond.static y ∈ bw
def CSN (own : String) (index : Nat) (y : MethodName) (cc : ByteArray) (nL : Nat) (ret : Option FieldType) (n : Nat) : Prop := Cd y cc nL ret n ∧ (∃ host : String, (own, index, y, host) ∈ nl) ∧ Cond.static y ∈ bw
def CIN (own : String) (index : Nat) (y : MethodName) (cc : ByteArray) (nL : Nat) (n : Nat) : Prop := Cd y cc nL none n ∧ (∃ host : String, (own, index, y, host) ∈ nl) ∧ Cond.instanceMethod y ∈ bw ∧ y.name = "<init>"
def CIf (own : String) (index : Nat) (y : MethodName) (cc : ByteArray) (nL : Nat) (n : Nat) : Prop := Cd y cc nL none n ∧ Cond.methodLink own index y ∈ bw ∧ Cond.instanceMethod y ∈ bw ∧ y.name = "<init>"
theorem good_cons {y : MethodName} {cc : ByteArray} {nL : Nat} {ret : Option FieldType} {n : Nat} (h : Cd y cc nL ret n) : GoodIn bw (Cond.code y cc nL ret :: bw) := fun w hw => (List.mem_cons.mp hw).elim (fun e => by rw [e]; exact ⟨h.1, bw_good h.1⟩) (fun hw => ⟨hw, bw_good hw⟩)
theorem fm_of {α β : Type} {f : α → Option β} {is : List α} {l : List β} (h : is.map f = l.map some) : is.filterMap f = l := by
  have : (is.map f).filterMap id = (l.map some).filterMap id := by rw [h]
  simpa [List.filterMap_map, Function.comp_def] using this
section CALC
variable {l : Launch} {D : va_G} {cy : ClassId} {cc : ByteArray} {nL : Nat} {own : String} {R : Room} {cells slots : Nat} {G : Gt} {ws : va_W} {lv : List (Nat × Value)} {pc : Nat} {rest : List Value}
theorem j_iconst (h : Mh l D cy cc nL own R cells slots G) {n : Int} {v : Int32} (hd : decode cc pc = .ok (.iconst n, 1)) (hv : Int32.ofInt n = v) (k : G ws lv (pc + 1) (.int v :: rest)) : G ws lv (pc) (rest) := by
  obtain ⟨p, e, s, m, args, below, meth, c, A, Q, ⟨hx, hb, hml, hown, hts, hE, hA⟩, rfl⟩ := h
  intro H locs ls hP hD hS hl
  exact lv_iconst hx hb hd hv (k H locs ls hP hD hS hl)
theorem j_bipush (h : Mh l D cy cc nL own R cells slots G) {n : Int} {v : Int32} (hd : decode cc pc = .ok (.bipush n, 2)) (hv : (Int8.ofInt n).toInt32 = v) (k : G ws lv (pc + 2) (.int v :: rest)) : G ws lv (pc) (rest) := by
  obtain ⟨p, e, s, m, args, below, meth, c, A, Q, ⟨hx, hb, hml, hown, hts, hE, hA⟩, rfl⟩ := h
  intro H locs ls hP hD hS hl
  exact lv_bipush hx hb hd hv (k H locs ls hP hD hS hl)
theorem j_sipush (h : Mh l D cy cc nL own R cells slots G) {n : Int} {v : Int32} (hd : decode cc pc = .ok (.sipush n, 3)) (hv : (Int16.ofInt n).toInt32 = v) (k : G ws lv (pc + 3) (.int v :: rest)) : G ws lv (pc) (rest) := by
  obtain ⟨p, e, s, m, args, below, meth, c, A, Q, ⟨hx, hb, hml, hown, hts, hE, hA⟩, rfl⟩ := h
  intro H locs ls hP hD hS hl
  exact lv_sipush hx hb hd hv (k H locs ls hP hD hS hl)
theorem j_lconst (h : Mh l D cy cc nL own R cells slots G) {n : Fin 2} {v : Int64} (hd : decode cc pc = .ok (.lconst n, 1)) (hv : Int64.ofNat (n : Nat) = v) (k : G ws lv (pc + 1) (.long v :: rest)) : G ws lv (pc) (rest) := by
  obtain ⟨p, e, s, m, args, below, meth, c, A, Q, ⟨hx, hb, hml, hown, hts, hE, hA⟩, rfl⟩ := h
  intro H locs ls hP hD hS hl
  exact lv_lconst hx hb hd hv (k H locs ls hP hD hS hl)
theorem j_ldc (h : Mh l D cy cc nL own R cells slots G) {index : Nat} {v : Int32} (hw : Cond.constant own index v ∈ bw) (hd : decode cc pc = .ok (.ldc index, 2)) (k : G ws lv (pc + 2) (.int v :: rest)) : G ws lv (pc) (rest) := by
  obtain ⟨p, e, s, m, args, below, meth, c, A, Q, ⟨hx, hb, hml, hown, hts, hE, hA⟩, rfl⟩ := h
  intro H locs ls hP hD hS hl
  exact lv_ldc hx hb hown (hts _ hw) hd (k H locs ls hP hD hS hl)
theorem j_ldc2 (h : Mh l D cy cc nL own R cells slots G) {index : Nat} {v : Int64} (hw : Cond.constantLong own index v ∈ bw) (hd : decode cc pc = .ok (.ldc2_w index, 3)) (k : G ws lv (pc + 3) (.long v :: rest)) : G ws lv (pc) (rest) := by
  obtain ⟨p, e, s, m, args, below, meth, c, A, Q, ⟨hx, hb, hml, hown, hts, hE, hA⟩, rfl⟩ := h
  intro H locs ls hP hD hS hl
  exact lv_ldc2 hx hb hown (hts _ hw) hd (k H locs ls hP hD hS hl)
theorem j_iload_n (h : Mh l D cy cc nL own R cells slots G) {j : Fin 4} {i : Nat} {x : Int32} (hd : decode cc pc = .ok (.iload_n j, 1)) (hi : (j : Nat) = i) (n : Nat) (hn : lv[n]? = some (i, .int x)) (k : G ws lv (pc + 1) (.int x :: rest)) : G ws lv (pc) (rest) := by
  obtain ⟨p, e, s, m, args, below, meth, c, A, Q, ⟨hx, hb, hml, hown, hts, hE, hA⟩, rfl⟩ := h
  intro H locs ls hP hD hS hl
  exact lv_iload_n hx hb hd hi (lv_at hl n hn) (k H locs ls hP hD hS hl)
theorem j_iload (h : Mh l D cy cc nL own R cells slots G) {i : Nat} {x : Int32} (hd : decode cc pc = .ok (.iload i, 2)) (n : Nat) (hn : lv[n]? = some (i, .int x)) (k : G ws lv (pc + 2) (.int x :: rest)) : G ws lv (pc) (rest) := by
  obtain ⟨p, e, s, m, args, below, meth, c, A, Q, ⟨hx, hb, hml, hown, hts, hE, hA⟩, rfl⟩ := h
  intro H locs ls hP hD hS hl
  exact lv_iload hx hb hd (lv_at hl n hn) (k H locs ls hP hD hS hl)
theorem j_aload_n (h : Mh l D cy cc nL own R cells slots G) {j : Fin 4} {i : Nat} {x : Nat} (hd : decode cc pc = .ok (.aload_n j, 1)) (hi : (j : Nat) = i) (n : Nat) (hn : lv[n]? = some (i, .ref x)) (k : G ws lv (pc + 1) (.ref x :: rest)) : G ws lv (pc) (rest) := by
  obtain ⟨p, e, s, m, args, below, meth, c, A, Q, ⟨hx, hb, hml, hown, hts, hE, hA⟩, rfl⟩ := h
  intro H locs ls hP hD hS hl
  exact lv_aload_n hx hb hd hi (lv_at hl n hn) (k H locs ls hP hD hS hl)
theorem j_aload (h : Mh l D cy cc nL own R cells slots G) {i : Nat} {x : Nat} (hd : decode cc pc = .ok (.aload i, 2)) (n : Nat) (hn : lv[n]? = some (i, .ref x)) (k : G ws lv (pc + 2) (.ref x :: rest)) : G ws lv (pc) (rest) := by
  obtain ⟨p, e, s, m, args, below, meth, c, A, Q, ⟨hx, hb, hml, hown, hts, hE, hA⟩, rfl⟩ := h
  intro H locs ls hP hD hS hl
  exact lv_aload hx hb hd (lv_at hl n hn) (k H locs ls hP hD hS hl)
theorem j_lload_n (h : Mh l D cy cc nL own R cells slots G) {j : Fin 4} {i : Nat} {x : Int64} (hd : decode cc pc = .ok (.lload_n j, 1)) (hi : (j : Nat) = i) (n : Nat) (hn : lv[n]? = some (i, .long x)) (k : G ws lv (pc + 1) (.long x :: rest)) : G ws lv (pc) (rest) := by
  obtain ⟨p, e, s, m, args, below, meth, c, A, Q, ⟨hx, hb, hml, hown, hts, hE, hA⟩, rfl⟩ := h
  intro H locs ls hP hD hS hl
  exact lv_lload_n hx hb hd hi (lv_at hl n hn) (k H locs ls hP hD hS hl)
theorem j_lload (h : Mh l D cy cc nL own R cells slots G) {i : Nat} {x : Int64} (hd : decode cc pc = .ok (.lload i, 2)) (n : Nat) (hn : lv[n]? = some (i, .long x)) (k : G ws lv (pc + 2) (.long x :: rest)) : G ws lv (pc) (rest) := by
  obtain ⟨p, e, s, m, args, below, meth, c, A, Q, ⟨hx, hb, hml, hown, hts, hE, hA⟩, rfl⟩ := h
  intro H locs ls hP hD hS hl
  exact lv_lload hx hb hd (lv_at hl n hn) (k H locs ls hP hD hS hl)
theorem j_istore_n (h : Mh l D cy cc nL own R cells slots G) {j : Fin 4} {i : Nat} {x : Int32} (lv' : List (Nat × Value)) (hd : decode cc pc = .ok (.istore_n j, 1)) (hi : (j : Nat) = i) (hn : i < nL) (hl' : (i, Value.int x) :: (lv).filter (fun q => !(q.1 == i) && !(q.1 + 1 == i && q.2.category == 2)) = lv') (k : G ws lv' (pc + 1) rest) : G ws lv (pc) (.int x :: rest) := by
  obtain ⟨p, e, s, m, args, below, meth, c, A, Q, ⟨hx, hb, hml, hown, hts, hE, hA⟩, rfl⟩ := h
  intro H locs ls hP hD hS hl
  exact lv_istore_n hx hb hd hi hl hn hl' (fun ls' h' => k H locs ls' hP hD hS h')
theorem j_istore (h : Mh l D cy cc nL own R cells slots G) {i : Nat} {x : Int32} (lv' : List (Nat × Value)) (hd : decode cc pc = .ok (.istore i, 2)) (hn : i < nL) (hl' : (i, Value.int x) :: (lv).filter (fun q => !(q.1 == i) && !(q.1 + 1 == i && q.2.category == 2)) = lv') (k : G ws lv' (pc + 2) rest) : G ws lv (pc) (.int x :: rest) := by
  obtain ⟨p, e, s, m, args, below, meth, c, A, Q, ⟨hx, hb, hml, hown, hts, hE, hA⟩, rfl⟩ := h
  intro H locs ls hP hD hS hl
  exact lv_istore hx hb hd hl hn hl' (fun ls' h' => k H locs ls' hP hD hS h')
theorem j_astore_n (h : Mh l D cy cc nL own R cells slots G) {j : Fin 4} {i : Nat} {x : Nat} (lv' : List (Nat × Value)) (hd : decode cc pc = .ok (.astore_n j, 1)) (hi : (j : Nat) = i) (hn : i < nL) (hl' : (i, Value.ref x) :: (lv).filter (fun q => !(q.1 == i) && !(q.1 + 1 == i && q.2.category == 2)) = lv') (k : G ws lv' (pc + 1) rest) : G ws lv (pc) (.ref x :: rest) := by
  obtain ⟨p, e, s, m, args, below, meth, c, A, Q, ⟨hx, hb, hml, hown, hts, hE, hA⟩, rfl⟩ := h
  intro H locs ls hP hD hS hl
  exact lv_astore_n hx hb hd hi hl hn hl' (fun ls' h' => k H locs ls' hP hD hS h')
theorem j_lstore_n (h : Mh l D cy cc nL own R cells slots G) {j : Fin 4} {i : Nat} {x : Int64} (lv' : List (Nat × Value)) (hd : decode cc pc = .ok (.lstore_n j, 1)) (hi : (j : Nat) = i) (hn : i + 1 < nL) (hl' : (i, Value.long x) :: (lv).filter (fun q => !(q.1 == i) && (!(q.1 == i + 1) && !(q.1 + 1 == i && q.2.category == 2))) = lv') (k : G ws lv' (pc + 1) rest) : G ws lv (pc) (.long x :: rest) := by
  obtain ⟨p, e, s, m, args, below, meth, c, A, Q, ⟨hx, hb, hml, hown, hts, hE, hA⟩, rfl⟩ := h
  intro H locs ls hP hD hS hl
  exact lv_lstore_n hx hb hd hi hl hn hl' (fun ls' h' => k H locs ls' hP hD hS h')
theorem j_lstore (h : Mh l D cy cc nL own R cells slots G) {i : Nat} {x : Int64} (lv' : List (Nat × Value)) (hd : decode cc pc = .ok (.lstore i, 2)) (hn : i + 1 < nL) (hl' : (i, Value.long x) :: (lv).filter (fun q => !(q.1 == i) && (!(q.1 == i + 1) && !(q.1 + 1 == i && q.2.category == 2))) = lv') (k : G ws lv' (pc + 2) rest) : G ws lv (pc) (.long x :: rest) := by
  obtain ⟨p, e, s, m, args, below, meth, c, A, Q, ⟨hx, hb, hml, hown, hts, hE, hA⟩, rfl⟩ := h
  intro H locs ls hP hD hS hl
  exact lv_lstore hx hb hd hl hn hl' (fun ls' h' => k H locs ls' hP hD hS h')
theorem j_iinc (h : Mh l D cy cc nL own R cells slots G) {i n' : Nat} {d : Int} {x v : Int32} (lv' : List (Nat × Value)) (hd : decode cc pc = .ok (.iinc i d, 3)) (hk : lv[n']? = some (i, .int x)) (hv : x + Int32.ofInt d = v) (hn : i < nL) (hl' : (i, Value.int v) :: (lv).filter (fun q => !(q.1 == i) && !(q.1 + 1 == i && q.2.category == 2)) = lv') (k : G ws lv' (pc + 3) rest) : G ws lv (pc) (rest) := by
  obtain ⟨p, e, s, m, args, below, meth, c, A, Q, ⟨hx, hb, hml, hown, hts, hE, hA⟩, rfl⟩ := h
  intro H locs ls hP hD hS hl
  exact lv_iinc hx hb hd hl hk hv hn hl' (fun ls' h' => k H locs ls' hP hD hS h')
theorem j_lv (h : Mh l D cy cc nL own R cells slots G) (ks : List Nat) {lv' : List (Nat × Value)} (hk : lv_pick lv ks = lv') (k : G ws lv' pc rest) : G ws lv (pc) (rest) := by
  obtain ⟨p, e, s, m, args, below, meth, c, A, Q, ⟨hx, hb, hml, hown, hts, hE, hA⟩, rfl⟩ := h
  intro H locs ls hP hD hS hl
  exact k H locs ls hP hD hS (lv_sub hl ks hk)
theorem j_iadd (h : Mh l D cy cc nL own R cells slots G) {x y v : Int32} (hd : decode cc pc = .ok (.iadd, 1)) (hv : x + y = v) (k : G ws lv (pc + 1) (.int v :: rest)) : G ws lv (pc) (.int y :: .int x :: rest) := by
  obtain ⟨p, e, s, m, args, below, meth, c, A, Q, ⟨hx, hb, hml, hown, hts, hE, hA⟩, rfl⟩ := h
  intro H locs ls hP hD hS hl
  subst hv
  exact lv_iadd hx hb hd (k H locs ls hP hD hS hl)
theorem j_isub (h : Mh l D cy cc nL own R cells slots G) {x y v : Int32} (hd : decode cc pc = .ok (.isub, 1)) (hv : x - y = v) (k : G ws lv (pc + 1) (.int v :: rest)) : G ws lv (pc) (.int y :: .int x :: rest) := by
  obtain ⟨p, e, s, m, args, below, meth, c, A, Q, ⟨hx, hb, hml, hown, hts, hE, hA⟩, rfl⟩ := h
  intro H locs ls hP hD hS hl
  subst hv
  exact lv_isub hx hb hd (k H locs ls hP hD hS hl)
theorem j_imul (h : Mh l D cy cc nL own R cells slots G) {x y v : Int32} (hd : decode cc pc = .ok (.imul, 1)) (hv : x * y = v) (k : G ws lv (pc + 1) (.int v :: rest)) : G ws lv (pc) (.int y :: .int x :: rest) := by
  obtain ⟨p, e, s, m, args, below, meth, c, A, Q, ⟨hx, hb, hml, hown, hts, hE, hA⟩, rfl⟩ := h
  intro H locs ls hP hD hS hl
  subst hv
  exact lv_imul hx hb hd (k H locs ls hP hD hS hl)
theorem j_iand (h : Mh l D cy cc nL own R cells slots G) {x y v : Int32} (hd : decode cc pc = .ok (.iand, 1)) (hv : x &&& y = v) (k : G ws lv (pc + 1) (.int v :: rest)) : G ws lv (pc) (.int y :: .int x :: rest) := by
  obtain ⟨p, e, s, m, args, below, meth, c, A, Q, ⟨hx, hb, hml, hown, hts, hE, hA⟩, rfl⟩ := h
  intro H locs ls hP hD hS hl
  subst hv
  exact lv_iand hx hb hd (k H locs ls hP hD hS hl)
theorem j_ior (h : Mh l D cy cc nL own R cells slots G) {x y v : Int32} (hd : decode cc pc = .ok (.ior, 1)) (hv : x ||| y = v) (k : G ws lv (pc + 1) (.int v :: rest)) : G ws lv (pc) (.int y :: .int x :: rest) := by
  obtain ⟨p, e, s, m, args, below, meth, c, A, Q, ⟨hx, hb, hml, hown, hts, hE, hA⟩, rfl⟩ := h
  intro H locs ls hP hD hS hl
  subst hv
  exact lv_ior hx hb hd (k H locs ls hP hD hS hl)
theorem j_ishl (h : Mh l D cy cc nL own R cells slots G) {x y v : Int32} (hd : decode cc pc = .ok (.ishl, 1)) (hv : x <<< (y &&& 31) = v) (k : G ws lv (pc + 1) (.int v :: rest)) : G ws lv (pc) (.int y :: .int x :: rest) := by
  obtain ⟨p, e, s, m, args, below, meth, c, A, Q, ⟨hx, hb, hml, hown, hts, hE, hA⟩, rfl⟩ := h
  intro H locs ls hP hD hS hl
  subst hv
  exact lv_ishl hx hb hd (k H locs ls hP hD hS hl)
theorem j_ishr (h : Mh l D cy cc nL own R cells slots G) {x y v : Int32} (hd : decode cc pc = .ok (.ishr, 1)) (hv : x >>> (y &&& 31) = v) (k : G ws lv (pc + 1) (.int v :: rest)) : G ws lv (pc) (.int y :: .int x :: rest) := by
  obtain ⟨p, e, s, m, args, below, meth, c, A, Q, ⟨hx, hb, hml, hown, hts, hE, hA⟩, rfl⟩ := h
  intro H locs ls hP hD hS hl
  subst hv
  exact lv_ishr hx hb hd (k H locs ls hP hD hS hl)
theorem j_idiv (h : Mh l D cy cc nL own R cells slots G) {x y v : Int32} (hd : decode cc pc = .ok (.idiv, 1)) (hne : ¬ y = 0) (hv : x / y = v) (k : G ws lv (pc + 1) (.int v :: rest)) : G ws lv (pc) (.int y :: .int x :: rest) := by
  obtain ⟨p, e, s, m, args, below, meth, c, A, Q, ⟨hx, hb, hml, hown, hts, hE, hA⟩, rfl⟩ := h
  intro H locs ls hP hD hS hl
  subst hv
  exact lv_idiv hx hb hd hne (k H locs ls hP hD hS hl)
theorem j_irem (h : Mh l D cy cc nL own R cells slots G) {x y v : Int32} (hd : decode cc pc = .ok (.irem, 1)) (hne : ¬ y = 0) (hv : x - x / y * y = v) (k : G ws lv (pc + 1) (.int v :: rest)) : G ws lv (pc) (.int y :: .int x :: rest) := by
  obtain ⟨p, e, s, m, args, below, meth, c, A, Q, ⟨hx, hb, hml, hown, hts, hE, hA⟩, rfl⟩ := h
  intro H locs ls hP hD hS hl
  subst hv
  exact lv_irem hx hb hd hne (k H locs ls hP hD hS hl)
theorem j_ladd (h : Mh l D cy cc nL own R cells slots G) {x y v : Int64} (hd : decode cc pc = .ok (.ladd, 1)) (hv : x + y = v) (k : G ws lv (pc + 1) (.long v :: rest)) : G ws lv (pc) (.long y :: .long x :: rest) := by
  obtain ⟨p, e, s, m, args, below, meth, c, A, Q, ⟨hx, hb, hml, hown, hts, hE, hA⟩, rfl⟩ := h
  intro H locs ls hP hD hS hl
  subst hv
  exact lv_ladd hx hb hd (k H locs ls hP hD hS hl)
theorem j_lmul (h : Mh l D cy cc nL own R cells slots G) {x y v : Int64} (hd : decode cc pc = .ok (.lmul, 1)) (hv : x * y = v) (k : G ws lv (pc + 1) (.long v :: rest)) : G ws lv (pc) (.long y :: .long x :: rest) := by
  obtain ⟨p, e, s, m, args, below, meth, c, A, Q, ⟨hx, hb, hml, hown, hts, hE, hA⟩, rfl⟩ := h
  intro H locs ls hP hD hS hl
  subst hv
  exact lv_lmul hx hb hd (k H locs ls hP hD hS hl)
theorem j_land (h : Mh l D cy cc nL own R cells slots G) {x y v : Int64} (hd : decode cc pc = .ok (.land, 1)) (hv : x &&& y = v) (k : G ws lv (pc + 1) (.long v :: rest)) : G ws lv (pc) (.long y :: .long x :: rest) := by
  obtain ⟨p, e, s, m, args, below, meth, c, A, Q, ⟨hx, hb, hml, hown, hts, hE, hA⟩, rfl⟩ := h
  intro H locs ls hP hD hS hl
  subst hv
  exact lv_land hx hb hd (k H locs ls hP hD hS hl)
theorem j_i2l (h : Mh l D cy cc nL own R cells slots G) {x : Int32} {v : Int64} (hd : decode cc pc = .ok (.i2l, 1)) (hv : x.toInt64 = v) (k : G ws lv (pc + 1) (.long v :: rest)) : G ws lv (pc) (.int x :: rest) := by
  obtain ⟨p, e, s, m, args, below, meth, c, A, Q, ⟨hx, hb, hml, hown, hts, hE, hA⟩, rfl⟩ := h
  intro H locs ls hP hD hS hl
  exact lv_i2l hx hb hd hv (k H locs ls hP hD hS hl)
theorem j_l2i (h : Mh l D cy cc nL own R cells slots G) {x : Int64} {v : Int32} (hd : decode cc pc = .ok (.l2i, 1)) (hv : x.toInt32 = v) (k : G ws lv (pc + 1) (.int v :: rest)) : G ws lv (pc) (.long x :: rest) := by
  obtain ⟨p, e, s, m, args, below, meth, c, A, Q, ⟨hx, hb, hml, hown, hts, hE, hA⟩, rfl⟩ := h
  intro H locs ls hP hD hS hl
  exact lv_l2i hx hb hd hv (k H locs ls hP hD hS hl)
theorem j_lcmp (h : Mh l D cy cc nL own R cells slots G) {x y : Int64} {v : Int32} (hd : decode cc pc = .ok (.lcmp, 1)) (hv : lg_cmp x y = v) (k : G ws lv (pc + 1) (.int v :: rest)) : G ws lv (pc) (.long y :: .long x :: rest) := by
  obtain ⟨p, e, s, m, args, below, meth, c, A, Q, ⟨hx, hb, hml, hown, hts, hE, hA⟩, rfl⟩ := h
  intro H locs ls hP hD hS hl
  subst hv
  exact W.lcmp hx hb hd (k H locs ls hP hD hS hl)
theorem j_dup (h : Mh l D cy cc nL own R cells slots G) {va : Value} (hd : decode cc pc = .ok (.dup, 1)) (hc : va.category = 1) (k : G ws lv (pc + 1) (va :: va :: rest)) : G ws lv (pc) (va :: rest) := by
  obtain ⟨p, e, s, m, args, below, meth, c, A, Q, ⟨hx, hb, hml, hown, hts, hE, hA⟩, rfl⟩ := h
  intro H locs ls hP hD hS hl
  exact lv_dup hx hb hd hc (k H locs ls hP hD hS hl)
theorem j_dup2 (h : Mh l D cy cc nL own R cells slots G) {va vb : Value} (hd : decode cc pc = .ok (.dup2, 1)) (hc : va.category = 1) (hc2 : vb.category = 1) (k : G ws lv (pc + 1) (va :: vb :: va :: vb :: rest)) : G ws lv (pc) (va :: vb :: rest) := by
  obtain ⟨p, e, s, m, args, below, meth, c, A, Q, ⟨hx, hb, hml, hown, hts, hE, hA⟩, rfl⟩ := h
  intro H locs ls hP hD hS hl
  exact lv_dup2_11 hx hb hd hc hc2 (k H locs ls hP hD hS hl)
theorem j_icmp_eq (h : Mh l D cy cc nL own R cells slots G) {P : Prop} {x y : Int32} {off : Int} (tgt : Nat) (hd : decode cc pc = .ok (.if_icmp .eq off, 3)) (ht : (pc : Int) + off = (tgt : Int)) (hp : x = y ↔ P) (kt : P → G ws lv tgt rest) (kf : ¬ P → G ws lv (pc + 3) rest) : G ws lv (pc) (.int y :: .int x :: rest) := by
  obtain ⟨p, e, s, m, args, below, meth, c, A, Q, ⟨hx, hb, hml, hown, hts, hE, hA⟩, rfl⟩ := h
  intro H locs ls hP hD hS hl
  exact lv_icmp_eq hx hb hd ht (fun q => kt (hp.mp q) H locs ls hP hD hS hl) (fun q => kf (fun z => q (hp.mpr z)) H locs ls hP hD hS hl)
theorem j_if_eq (h : Mh l D cy cc nL own R cells slots G) {P : Prop} {x : Int32} {off : Int} (tgt : Nat) (hd : decode cc pc = .ok (.ifCond .eq off, 3)) (ht : (pc : Int) + off = (tgt : Int)) (hp : x = 0 ↔ P) (kt : P → G ws lv tgt rest) (kf : ¬ P → G ws lv (pc + 3) rest) : G ws lv (pc) (.int x :: rest) := by
  obtain ⟨p, e, s, m, args, below, meth, c, A, Q, ⟨hx, hb, hml, hown, hts, hE, hA⟩, rfl⟩ := h
  intro H locs ls hP hD hS hl
  exact lv_if_eq hx hb hd ht (fun q => kt (hp.mp q) H locs ls hP hD hS hl) (fun q => kf (fun z => q (hp.mpr z)) H locs ls hP hD hS hl)
theorem j_icmp_ne (h : Mh l D cy cc nL own R cells slots G) {P : Prop} {x y : Int32} {off : Int} (tgt : Nat) (hd : decode cc pc = .ok (.if_icmp .ne off, 3)) (ht : (pc : Int) + off = (tgt : Int)) (hp : x = y ↔ P) (kt : ¬ P → G ws lv tgt rest) (kf : P → G ws lv (pc + 3) rest) : G ws lv (pc) (.int y :: .int x :: rest) := by
  obtain ⟨p, e, s, m, args, below, meth, c, A, Q, ⟨hx, hb, hml, hown, hts, hE, hA⟩, rfl⟩ := h
  intro H locs ls hP hD hS hl
  exact lv_icmp_ne hx hb hd ht (fun q => kt (fun z => q (hp.mpr z)) H locs ls hP hD hS hl) (fun q => kf (hp.mp q) H locs ls hP hD hS hl)
theorem j_if_ne (h : Mh l D cy cc nL own R cells slots G) {P : Prop} {x : Int32} {off : Int} (tgt : Nat) (hd : decode cc pc = .ok (.ifCond .ne off, 3)) (ht : (pc : Int) + off = (tgt : Int)) (hp : x = 0 ↔ P) (kt : ¬ P → G ws lv tgt rest) (kf : P → G ws lv (pc + 3) rest) : G ws lv (pc) (.int x :: rest) := by
  obtain ⟨p, e, s, m, args, below, meth, c, A, Q, ⟨hx, hb, hml, hown, hts, hE, hA⟩, rfl⟩ := h
  intro H locs ls hP hD hS hl
  exact lv_if_ne hx hb hd ht (fun q => kt (fun z => q (hp.mpr z)) H locs ls hP hD hS hl) (fun q => kf (hp.mp q) H locs ls hP hD hS hl)
theorem j_icmp_lt (h : Mh l D cy cc nL own R cells slots G) {P : Prop} {x y : Int32} {off : Int} (tgt : Nat) (hd : decode cc pc = .ok (.if_icmp .lt off, 3)) (ht : (pc : Int) + off = (tgt : Int)) (hp : x < y ↔ P) (kt : P → G ws lv tgt rest) (kf : ¬ P → G ws lv (pc + 3) rest) : G ws lv (pc) (.int y :: .int x :: rest) := by
  obtain ⟨p, e, s, m, args, below, meth, c, A, Q, ⟨hx, hb, hml, hown, hts, hE, hA⟩, rfl⟩ := h
  intro H locs ls hP hD hS hl
  exact lv_icmp_lt hx hb hd ht (fun q => kt (hp.mp q) H locs ls hP hD hS hl) (fun q => kf (fun z => q (hp.mpr z)) H locs ls hP hD hS hl)
theorem j_if_lt (h : Mh l D cy cc nL own R cells slots G) {P : Prop} {x : Int32} {off : Int} (tgt : Nat) (hd : decode cc pc = .ok (.ifCond .lt off, 3)) (ht : (pc : Int) + off = (tgt : Int)) (hp : x < 0 ↔ P) (kt : P → G ws lv tgt rest) (kf : ¬ P → G ws lv (pc + 3) rest) : G ws lv (pc) (.int x :: rest) := by
  obtain ⟨p, e, s, m, args, below, meth, c, A, Q, ⟨hx, hb, hml, hown, hts, hE, hA⟩, rfl⟩ := h
  intro H locs ls hP hD hS hl
  exact lv_if_lt hx hb hd ht (fun q => kt (hp.mp q) H locs ls hP hD hS hl) (fun q => kf (fun z => q (hp.mpr z)) H locs ls hP hD hS hl)
theorem j_icmp_ge (h : Mh l D cy cc nL own R cells slots G) {P : Prop} {x y : Int32} {off : Int} (tgt : Nat) (hd : decode cc pc = .ok (.if_icmp .ge off, 3)) (ht : (pc : Int) + off = (tgt : Int)) (hp : y ≤ x ↔ P) (kt : P → G ws lv tgt rest) (kf : ¬ P → G ws lv (pc + 3) rest) : G ws lv (pc) (.int y :: .int x :: rest) := by
  obtain ⟨p, e, s, m, args, below, meth, c, A, Q, ⟨hx, hb, hml, hown, hts, hE, hA⟩, rfl⟩ := h
  intro H locs ls hP hD hS hl
  exact lv_icmp_ge hx hb hd ht (fun q => kt (hp.mp q) H locs ls hP hD hS hl) (fun q => kf (fun z => q (hp.mpr z)) H locs ls hP hD hS hl)
theorem j_if_ge (h : Mh l D cy cc nL own R cells slots G) {P : Prop} {x : Int32} {off : Int} (tgt : Nat) (hd : decode cc pc = .ok (.ifCond .ge off, 3)) (ht : (pc : Int) + off = (tgt : Int)) (hp : 0 ≤ x ↔ P) (kt : P → G ws lv tgt rest) (kf : ¬ P → G ws lv (pc + 3) rest) : G ws lv (pc) (.int x :: rest) := by
  obtain ⟨p, e, s, m, args, below, meth, c, A, Q, ⟨hx, hb, hml, hown, hts, hE, hA⟩, rfl⟩ := h
  intro H locs ls hP hD hS hl
  exact lv_if_ge hx hb hd ht (fun q => kt (hp.mp q) H locs ls hP hD hS hl) (fun q => kf (fun z => q (hp.mpr z)) H locs ls hP hD hS hl)
theorem j_icmp_gt (h : Mh l D cy cc nL own R cells slots G) {P : Prop} {x y : Int32} {off : Int} (tgt : Nat) (hd : decode cc pc = .ok (.if_icmp .gt off, 3)) (ht : (pc : Int) + off = (tgt : Int)) (hp : y < x ↔ P) (kt : P → G ws lv tgt rest) (kf : ¬ P → G ws lv (pc + 3) rest) : G ws lv (pc) (.int y :: .int x :: rest) := by
  obtain ⟨p, e, s, m, args, below, meth, c, A, Q, ⟨hx, hb, hml, hown, hts, hE, hA⟩, rfl⟩ := h
  intro H locs ls hP hD hS hl
  exact lv_icmp_gt hx hb hd ht (fun q => kt (hp.mp q) H locs ls hP hD hS hl) (fun q => kf (fun z => q (hp.mpr z)) H locs ls hP hD hS hl)
theorem j_if_gt (h : Mh l D cy cc nL own R cells slots G) {P : Prop} {x : Int32} {off : Int} (tgt : Nat) (hd : decode cc pc = .ok (.ifCond .gt off, 3)) (ht : (pc : Int) + off = (tgt : Int)) (hp : 0 < x ↔ P) (kt : P → G ws lv tgt rest) (kf : ¬ P → G ws lv (pc + 3) rest) : G ws lv (pc) (.int x :: rest) := by
  obtain ⟨p, e, s, m, args, below, meth, c, A, Q, ⟨hx, hb, hml, hown, hts, hE, hA⟩, rfl⟩ := h
  intro H locs ls hP hD hS hl
  exact lv_if_gt hx hb hd ht (fun q => kt (hp.mp q) H locs ls hP hD hS hl) (fun q => kf (fun z => q (hp.mpr z)) H locs ls hP hD hS hl)
theorem j_icmp_le (h : Mh l D cy cc nL own R cells slots G) {P : Prop} {x y : Int32} {off : Int} (tgt : Nat) (hd : decode cc pc = .ok (.if_icmp .le off, 3)) (ht : (pc : Int) + off = (tgt : Int)) (hp : x ≤ y ↔ P) (kt : P → G ws lv tgt rest) (kf : ¬ P → G ws lv (pc + 3) rest) : G ws lv (pc) (.int y :: .int x :: rest) := by
  obtain ⟨p, e, s, m, args, below, meth, c, A, Q, ⟨hx, hb, hml, hown, hts, hE, hA⟩, rfl⟩ := h
  intro H locs ls hP hD hS hl
  exact lv_icmp_le hx hb hd ht (fun q => kt (hp.mp q) H locs ls hP hD hS hl) (fun q => kf (fun z => q (hp.mpr z)) H locs ls hP hD hS hl)
theorem j_if_le (h : Mh l D cy cc nL own R cells slots G) {P : Prop} {x : Int32} {off : Int} (tgt : Nat) (hd : decode cc pc = .ok (.ifCond .le off, 3)) (ht : (pc : Int) + off = (tgt : Int)) (hp : x ≤ 0 ↔ P) (kt : P → G ws lv tgt rest) (kf : ¬ P → G ws lv (pc + 3) rest) : G ws lv (pc) (.int x :: rest) := by
  obtain ⟨p, e, s, m, args, below, meth, c, A, Q, ⟨hx, hb, hml, hown, hts, hE, hA⟩, rfl⟩ := h
  intro H locs ls hP hD hS hl
  exact lv_if_le hx hb hd ht (fun q => kt (hp.mp q) H locs ls hP hD hS hl) (fun q => kf (fun z => q (hp.mpr z)) H locs ls hP hD hS hl)
theorem j_goto (h : Mh l D cy cc nL own R cells slots G) {off : Int} (tgt : Nat) (hd : decode cc pc = .ok (.goto off, 3)) (ht : (pc : Int) + off = (tgt : Int)) (k : G ws lv tgt rest) : G ws lv (pc) (rest) := by
  obtain ⟨p, e, s, m, args, below, meth, c, A, Q, ⟨hx, hb, hml, hown, hts, hE, hA⟩, rfl⟩ := h
  intro H locs ls hP hD hS hl
  exact lv_goto hx hb hd ht (k H locs ls hP hD hS hl)
theorem j_tsIn (h : Mh l D cy cc nL own R cells slots G) {dflt lo hi : Int} {offs : Array Int} {len : Nat} {x : Int32} {off : Int} (tgt : Nat) (hd : decode cc pc = .ok (.tableswitch dflt lo hi offs, len)) (h1 : ¬ x.toInt < lo) (h2 : ¬ hi < x.toInt) (ho : offs[(x.toInt - lo).toNat]? = some off) (ht : (pc : Int) + off = (tgt : Int)) (k : G ws lv tgt rest) : G ws lv (pc) (.int x :: rest) := by
  obtain ⟨p, e, s, m, args, below, meth, c, A, Q, ⟨hx, hb, hml, hown, hts, hE, hA⟩, rfl⟩ := h
  intro H locs ls hP hD hS hl
  exact lv_tableIn hx hb hd h1 h2 ho ht (k H locs ls hP hD hS hl)
theorem j_tsOut (h : Mh l D cy cc nL own R cells slots G) {dflt lo hi : Int} {offs : Array Int} {len : Nat} {x : Int32} (tgt : Nat) (hd : decode cc pc = .ok (.tableswitch dflt lo hi offs, len)) (h1 : x.toInt < lo ∨ hi < x.toInt) (ht : (pc : Int) + dflt = (tgt : Int)) (k : G ws lv tgt rest) : G ws lv (pc) (.int x :: rest) := by
  obtain ⟨p, e, s, m, args, below, meth, c, A, Q, ⟨hx, hb, hml, hown, hts, hE, hA⟩, rfl⟩ := h
  intro H locs ls hP hD hS hl
  exact lv_tableOut hx hb hd h1 ht (k H locs ls hP hD hS hl)
theorem j_lsw (h : Mh l D cy cc nL own R cells slots G) {dflt : Int} {ps : Array (Int × Int)} {len : Nat} {x : Int32} {off : Int} (tgt : Nat) (hd : decode cc pc = .ok (.lookupswitch dflt ps, len)) (hp : (ps.toList.zip (ps.toList.drop 1)).all (fun (a, next) => a.1 < next.1) = true) (ho : Op.lookupswitch.offset ps.toList dflt x.toInt = off) (ht : (pc : Int) + off = (tgt : Int)) (k : G ws lv tgt rest) : G ws lv (pc) (.int x :: rest) := by
  obtain ⟨p, e, s, m, args, below, meth, c, A, Q, ⟨hx, hb, hml, hown, hts, hE, hA⟩, rfl⟩ := h
  intro H locs ls hP hD hS hl
  exact lv_lookup hx hb hd hp ho ht (k H locs ls hP hD hS hl)
theorem j_get (h : Mh l D cy cc nL own R cells slots G) {index ci f : Nat} (hf : Fq own index ci f) {a : Nat} {fs : List Value} {v : Value} (q0 : Nat) (he : ws[q0]? = some (a, .inr (ci, fs))) (hv : fs[f]? = some v) (hd : decode cc pc = .ok (.getfield index, 3)) (k : G ws lv (pc + 3) (v :: rest)) : G ws lv (pc) (.ref a :: rest) := by
  obtain ⟨p, e, s, m, args, below, meth, c, A, Q, ⟨hx, hb, hml, hown, hts, hE, hA⟩, rfl⟩ := h
  intro H locs ls hP hD hS hl
  obtain ⟨C, T, N, hin, hc, hk, hlk⟩ := hf
  exact va_get hx hb hts hin hown hE.1 hP q0 he hc f hk (hts _ hlk) (fun _ z => z) hv hd (k H locs ls hP hD hS hl)
theorem j_put (h : Mh l D cy cc nL own R cells slots G) {index ci f : Nat} {ty : FieldType} (hf : Fp own index ci f false ty) {a : Nat} {fs : List Value} {v : Value} (ws' : va_W) (q0 : Nat) (he : ws[q0]? = some (a, .inr (ci, fs))) (hl : f < fs.length) (hn : narrow ty v = v) (hfit : fits ty v = true) (hw : ws.set q0 (a, .inr (ci, fs.set f v)) = ws') (hd : decode cc pc = .ok (.putfield index, 3)) (k : G ws' lv (pc + 3) rest) : G ws lv (pc) (v :: .ref a :: rest) := by
  obtain ⟨p, e, s, m, args, below, meth, c, A, Q, ⟨hx, hb, hml, hown, hts, hE, hA⟩, rfl⟩ := h
  intro H locs ls hP hD hS hl
  obtain ⟨C, T, N, ty0, hin, hc, hk, hlk, hty, hnm, hfin, hpd, -⟩ := hf
  subst hw
  exact va_put hx hb hts hin ty0 hty hnm hown hE.1 hP hD hS q0 he hc f hk (hts _ hlk) (fun _ z => z) hfin hpd hn hfit (by assumption) hd (fun H1 locs1 hP hD hS => k H1 locs1 ls hP hD hS hl)
theorem j_iald (h : Mh l D cy cc nL own R cells slots G) {a n : Nat} {f : Nat → Int32} {x v : Int32} (q0 : Nat) (he : ws[q0]? = some (a, .inl (cy, n, .inl f))) (hin : vp_in x n) (hv : f x.toNatClampNeg = v) (hd : decode cc pc = .ok (.iaload, 1)) (k : G ws lv (pc + 1) (.int v :: rest)) : G ws lv (pc) (.int x :: .ref a :: rest) := by
  obtain ⟨p, e, s, m, args, below, meth, c, A, Q, ⟨hx, hb, hml, hown, hts, hE, hA⟩, rfl⟩ := h
  intro H locs ls hP hD hS hl
  subst hv
  exact va_iald hx hb hE.1 hP q0 0 he rfl hin hd (k H locs ls hP hD hS hl)
theorem j_iast (h : Mh l D cy cc nL own R cells slots G) {a n : Nat} {f : Nat → Int32} {x v : Int32} (ws' : va_W) (q0 : Nat) (he : ws[q0]? = some (a, .inl (cy, n, .inl f))) (hin : vp_in x n) (hw : ws.set q0 (a, .inl (cy, n, .inl (upd f x.toNatClampNeg v))) = ws') (hd : decode cc pc = .ok (.iastore, 1)) (k : G ws' lv (pc + 1) rest) : G ws lv (pc) (.int v :: .int x :: .ref a :: rest) := by
  obtain ⟨p, e, s, m, args, below, meth, c, A, Q, ⟨hx, hb, hml, hown, hts, hE, hA⟩, rfl⟩ := h
  intro H locs ls hP hD hS hl
  subst hw
  exact va_iast hx hb hE.1 hP hD hS q0 0 he rfl hin hd (fun H1 locs1 hP hD hS => k H1 locs1 ls hP hD hS hl)
theorem j_alen (h : Mh l D cy cc nL own R cells slots G) {a : Nat} {x : vp_A} {v : Int32} (q0 : Nat) (he : ws[q0]? = some (a, .inl (cy, x))) (hv : Int32.ofNat x.1 = v) (hd : decode cc pc = .ok (.arraylength, 1)) (k : G ws lv (pc + 1) (.int v :: rest)) : G ws lv (pc) (.ref a :: rest) := by
  obtain ⟨p, e, s, m, args, below, meth, c, A, Q, ⟨hx, hb, hml, hown, hts, hE, hA⟩, rfl⟩ := h
  intro H locs ls hP hD hS hl
  exact va_alen hx hb hE.1 hP q0 0 he rfl hv hd (k H locs ls hP hD hS hl)
theorem cell_cong {cA : ClassId} {n : Nat} {f g : Nat → Int32} (h : ∀ i, i < n → f i = g i) : vp_cell cA (n, .inl f) = vp_cell cA (n, .inl g) := by
  rw [vp_cell_i, vp_cell_i, arrV, arrV]
  congr 1
  apply Array.ext
  · simp
  · intro i h1 h2
    simp only [Array.getElem_ofFn]
    rw [h i (by simpa using h1)]
theorem j_arr (h : Mh l D cy cc nL own R cells slots G) {a n : Nat} {f g : Nat → Int32} (ws' : va_W) (q0 : Nat) (he : ws[q0]? = some (a, .inl (cy, n, .inl f))) (hfg : ∀ i, i < n → f i = g i) (hw : ws.set q0 (a, .inl (cy, n, .inl g)) = ws') (k : G ws' lv pc rest) : G ws lv (pc) (rest) := by
  obtain ⟨p, e, s, m, args, below, meth, c, A, Q, ⟨hx, hb, hml, hown, hts, hE, hA⟩, rfl⟩ := h
  intro H locs ls hP hD hS hl
  subst hw
  refine k H locs ls (hP.set hD he ?_ (fun _ _ => rfl)) (hD.set he) hS hl
  show H[a]? = some (vp_cell cy (n, .inl g))
  rw [← cell_cong hfg]
  exact hP q0 _ he
theorem j_max (h : Mh l D cy cc nL own R cells slots G) {index : Nat} {x y v : Int32} (hw : Cond.methodLink own index Lib.Math.max.name ∈ bw) (hw2 : Cond.static Lib.Math.max.name ∈ bw ∧ Cond.initialized "java/lang/Math" ∈ bw ∧ Cond.code Lib.Math.max.name Lib.Math.max.code 2 (some .int) ∈ bw) (hr : 1 ≤ R.frames ∧ (rest.map fun v => v.category).sum + 13 ≤ R.locals ∧ cells ≤ R.cells ∧ slots ≤ R.slots) (hd : decode cc pc = .ok (.invokestatic index, 3)) (hv : (if x < y then y else x) = v) (k : G ws lv (pc + 3) (.int v :: rest)) : G ws lv (pc) (.int y :: .int x :: rest) := by
  obtain ⟨p, e, s, m, args, below, meth, c, A, Q, ⟨hx, hb, hml, hown, hts, hE, hA⟩, rfl⟩ := h
  intro H locs ls hP hD hS hl
  subst hv
  exact va_mmax hx hb (hml.trans hl.1.symm) hown (hts _ hw) (hts _ hw2.1) (hts _ hw2.2.1) (hts _ hw2.2.2) hr.1 hr.2.1 hr.2.2.1 hr.2.2.2 hd (k H locs ls hP hD hS hl)
theorem j_min (h : Mh l D cy cc nL own R cells slots G) {index : Nat} {x y v : Int32} (hw : Cond.methodLink own index Lib.Math.min.name ∈ bw) (hw2 : Cond.static Lib.Math.min.name ∈ bw ∧ Cond.initialized "java/lang/Math" ∈ bw ∧ Cond.code Lib.Math.min.name Lib.Math.min.code 2 (some .int) ∈ bw) (hr : 1 ≤ R.frames ∧ (rest.map fun v => v.category).sum + 13 ≤ R.locals ∧ cells ≤ R.cells ∧ slots ≤ R.slots) (hd : decode cc pc = .ok (.invokestatic index, 3)) (hv : (if y < x then y else x) = v) (k : G ws lv (pc + 3) (.int v :: rest)) : G ws lv (pc) (.int y :: .int x :: rest) := by
  obtain ⟨p, e, s, m, args, below, meth, c, A, Q, ⟨hx, hb, hml, hown, hts, hE, hA⟩, rfl⟩ := h
  intro H locs ls hP hD hS hl
  subst hv
  exact va_mmin hx hb (hml.trans hl.1.symm) hown (hts _ hw) (hts _ hw2.1) (hts _ hw2.2.1) (hts _ hw2.2.2) hr.1 hr.2.1 hr.2.2.1 hr.2.2.2 hd (k H locs ls hP hD hS hl)
theorem j_copy (h : Mh l D cy cc nL own R cells slots G) {index a0 a1 n0 n1 N : Nat} {f g : Nat → Int32} (hw : Cond.methodLink own index arraycopyName ∈ bw) (hw2 : Cond.native arraycopyName ∈ bw ∧ Cond.static arraycopyName ∈ bw ∧ Cond.initialized "java/lang/System" ∈ bw) (ws' : va_W) (q0 q1 : Nat) (he0 : ws[q0]? = some (a0, .inl (cy, n0, .inl f))) (he1 : ws[q1]? = some (a1, .inl (cy, n1, .inl g))) (h0 : N ≤ n0) (h1 : N ≤ n1) (hN : N < 2 ^ 31) (hr : 1 ≤ R.frames ∧ (rest.map fun v => v.category).sum + (nativeFrameWords "java/lang/System" "arraycopy" 5 + 11) ≤ R.locals) (hws : ws.set q1 (a1, .inl (cy, n1, .inl (va_cpy f g 0 0 N))) = ws') (hd : decode cc pc = .ok (.invokestatic index, 3)) (k : G ws' lv (pc + 3) rest) : G ws lv (pc) (.int (nI N) :: .int (nI 0) :: .ref a1 :: .int (nI 0) :: .ref a0 :: rest) := by
  obtain ⟨p, e, s, m, args, below, meth, c, A, Q, ⟨hx, hb, hml, hown, hts, hE, hA⟩, rfl⟩ := h
  intro H locs ls hP hD hS hl
  subst hws
  have e0 : (nI 0).toNatClampNeg = 0 := by decide
  have eN : (nI N).toNatClampNeg = N := nI_clamp hN
  refine va_copyi hx hb (hml.trans hl.1.symm) hown (hts _ hw) (hts _ hw2.1) (hts _ hw2.2.1) (hts _ hw2.2.2) hE.1 hP hD hS q0 q1 0 0 he0 he1 rfl rfl rfl (nI_pos (by decide)) (nI_pos (by decide)) (nI_pos hN) (by rw [e0, eN]; omega) (by rw [e0, eN]; omega) (fun _ _ => rfl) hr.1 hr.2 hd (fun H1 locs1 hP1 hD1 hS1 => ?_)
  rw [e0, eN] at hP1 hD1
  exact k H1 locs1 ls hP1 hD1 hS1 hl
/-- behind a call, whatever its answer is -/
theorem cal_go {σ : Type} {p : Program} {e : Env} {s : State} {m : MethodId} {args : Array Value} {below : List Frame} {meth : Method} {c : Code} {H : Heap} {locs : List Loc} {Q : State → Prop} {ls : Array Slot} {st0 : List Value} {A0 A1 : Nat → Prop} {H0 : Heap} {mc ms : Nat} {free : Addr → Prop} {Qp : σ → Prop} {r : σ → Option Value} {w1 : σ → va_W} {B : Nat → Prop}
    (hr : va_Run p l e R s m args below meth c H locs cells slots mc ms (F0 m pc ls st0) rest (fun (st : State) (oc : Outcome) (t : State) => (∃ u : σ, Qp u ∧ oc = .returned (r u) ∧ va_P D vwCl (w1 u) t.heap ∧ va_D B (w1 u)) ∧ va_F A1 st t) free) (hS : va_S A0 H0 H locs) (hA : ∀ q, q < H.size → A1 q → A0 q) (hf : ∀ q, free q → A0 q)
    (kk : ∀ (u : σ) (v : Option Value) (t : State) (H1 : Heap) (locs1 : List Loc), t.heap = H1 → s.vm.Alike t.vm → Qp u → v = r u → va_P D vwCl (w1 u) t.heap → va_D B (w1 u) → H.size ≤ H1.size → (∀ q : Nat, q < H.size → ¬ A1 q → H1[q]? = H[q]?) → va_S A0 H0 H1 locs1 → W p l e R s m args below meth c H1 locs1 (cells + mc) (slots + ms) Q (F0 m (pc + 3) ls (v.toList ++ rest))) : W p l e R s m args below meth c H locs cells slots Q (F0 m pc ls st0) := by
  intro T hT X
  obtain ⟨v, st₀, t, T', L, h0, X', hL, e1, e2, ⟨⟨u, hq, hv, hp, hd⟩, hz, hk⟩, st⟩ := hr T hT X
  cases hv
  rw [h0] at hz hk
  obtain ⟨t2, a1, b1⟩ := kk u _ t T'.heap (locs ++ L) e1.symm (by rw [← e2]; exact X'.warmed.alike) hq rfl hp hd (by rw [e1]; exact hz) (fun q h1 h2 => by rw [e1]; exact hk q h1 h2)
    ⟨Nat.le_trans hS.1 (by rw [e1]; exact hz), fun q h1 h2 => by rw [e1, hk q (Nat.lt_of_lt_of_le h1 hS.1) (fun z => h2 (hA q (Nat.lt_of_lt_of_le h1 hS.1) z))]; exact hS.2.1 q h1 h2, fun q hq => by
      rcases List.mem_append.mp hq with h | h
      · exact hS.2.2 q h
      · exact hf _ (hL q h)⟩ T' rfl X'
  exact ⟨t2, st t2 a1, b1⟩
theorem j_callV {σ : Type} (h : Mh l D cy cc nL own R cells slots G) {G' : Gt} {y : MethodName} {cy2 : ByteArray} {nY : Nat} {ret : Option FieldType} {n index : Nat} (hcv : CVf own index y cy2 nY ret n) {rm : Room} {b ci : Nat} {fs : List Value} {As : List Value} {wc : va_W} {Qp : σ → Prop} {r : σ → Option Value} {w1 : σ → va_W} (hct : Ct l D cy y cy2 nY ret rm (.ref b :: As) wc Qp r w1) (hR : rm.frames + 1 ≤ R.frames ∧ 8 + (nY + 11) + rm.locals ≤ R.locals ∧ cells + rm.cells ≤ R.cells ∧ slots + rm.slots ≤ R.slots) (hn : As.length = n) {N : Nat} {T : u_T} (q0 : Nat) (he : ws[q0]? = some (b, .inr (ci, fs))) (hci : vwCl[ci]? = some (y.cls, T, N)) (isC isR pm : List Nat) (wr : va_W) (ws' : σ → va_W) (hC : isC.map (fun i => ws[i]?) = wc.map some) (hCn : va_nd isC = true) (hRr : isR.map (fun i => ws[i]?) = wr.map some) (hRn : va_nd isR = true) (hdis : ∀ i ∈ isR, i ∉ isC) (hpn : va_nd pm = true) (hpm : ∀ u, pm.map (fun i => (wr ++ w1 u)[i]?) = (ws' u).map some) (hW : (rest.map fun v => v.category).sum ≤ 8) (hd : decode cc pc = .ok (.invokevirtual index, 3)) (hG : ∃ (p : Program) (e : Env) (s : State) (m : MethodId) (args : Array Value) (below : List Frame) (meth : Method) (c : Code) (A : Nat → Prop) (Q : State → Prop), Cx p s m args c A D cy cc nL own ∧ G = Jd p l e R s m args below meth c A D nL cells slots Q ∧ G' = Jd p l e R s m args below meth c A D nL (cells + rm.cells) (slots + rm.slots) Q) (k : ∀ u, Qp u → G' (ws' u) lv (pc + 3) ((r u).toList ++ rest)) : G ws lv pc (As.reverse ++ .ref b :: rest) := by
  obtain ⟨p, e, s, m, args, below, meth, c, A, Q, ⟨hx, hb, hml, hown, hts, hE, hA⟩, rfl, rfl⟩ := hG
  intro H locs ls hP hD hS hl
  have hPc : va_P D vwCl wc H := hP.sub isC (fm_of hC)
  have hDc : va_D A wc := hD.sub isC hCn hC
  have hFc := va_free (wc := wc) hD hS hA isC hC
  have hgd := good_cons hcv.1
  refine cal_go (va_runV (As := As) (rest := rest) ⟨hx, hb, hml, hown, hts⟩ (hct H.size) ⟨callB_of n hts hgd rfl rfl rfl (hts _ hcv.1.2.1) (hts _ hcv.2.1) hcv.1.2.2 ⟨hR.1, hR.2.1⟩, hts _ hcv.2.2.1, hts _ hcv.2.2.2⟩ ⟨fun a U g mk q => ⟨q.1, q.2.1, q.2.2.1, q.2.2.2.1.call, q.2.2.2.2⟩, va_recv hE.1 hP hci he, fun U hU hW => ⟨rfl, by rw [hU], by rw [hU]; exact hPc, hE.warm hW, hDc.weaken (fun _ _ _ _ => trivial)⟩⟩ rfl hn hl.1 rfl (lv_room hW) hd hR.2.2) hS (fun q _ h => hFc q h) hFc (fun u v t H1 locs1 ht hvm hq hv hP1 hD1 hz1 hk1 hS1 => ?_)
  rw [ht] at hP1
  obtain ⟨hP2, hD2⟩ := va_join (wr := wr) (w1 := w1 u) hP hD isC isR hC hRr hRn hdis hk1 hFc hP1 hD1
  subst hv
  exact k u hq H1 locs1 ls (hP2.sub pm (fm_of (hpm u))) (hD2.sub pm hpn (hpm u)) hS1 hl
theorem j_callS {σ : Type} (h : Mh l D cy cc nL own R cells slots G) {G' : Gt} {y : MethodName} {cy2 : ByteArray} {nY : Nat} {ret : Option FieldType} {n index : Nat} (hcv : CSf own index y cy2 nY ret n) {rm : Room} {As : List Value} {wc : va_W} {Qp : σ → Prop} {r : σ → Option Value} {w1 : σ → va_W} (hct : Ct l D cy y cy2 nY ret rm As wc Qp r w1) (hR : rm.frames + 1 ≤ R.frames ∧ 8 + (nY + 11) + rm.locals ≤ R.locals ∧ cells + rm.cells ≤ R.cells ∧ slots + rm.slots ≤ R.slots) (hn : As.length = n) (isC isR pm : List Nat) (wr : va_W) (ws' : σ → va_W) (hC : isC.map (fun i => ws[i]?) = wc.map some) (hCn : va_nd isC = true) (hRr : isR.map (fun i => ws[i]?) = wr.map some) (hRn : va_nd isR = true) (hdis : ∀ i ∈ isR, i ∉ isC) (hpn : va_nd pm = true) (hpm : ∀ u, pm.map (fun i => (wr ++ w1 u)[i]?) = (ws' u).map some) (hW : (rest.map fun v => v.category).sum ≤ 8) (hd : decode cc pc = .ok (.invokestatic index, 3)) (hG : ∃ (p : Program) (e : Env) (s : State) (m : MethodId) (args : Array Value) (below : List Frame) (meth : Method) (c : Code) (A : Nat → Prop) (Q : State → Prop), Cx p s m args c A D cy cc nL own ∧ G = Jd p l e R s m args below meth c A D nL cells slots Q ∧ G' = Jd p l e R s m args below meth c A D nL (cells + rm.cells) (slots + rm.slots) Q) (k : ∀ u, Qp u → G' (ws' u) lv (pc + 3) ((r u).toList ++ rest)) : G ws lv pc (As.reverse ++ rest) := by
  obtain ⟨p, e, s, m, args, below, meth, c, A, Q, ⟨hx, hb, hml, hown, hts, hE, hA⟩, rfl, rfl⟩ := hG
  intro H locs ls hP hD hS hl
  have hPc : va_P D vwCl wc H := hP.sub isC (fm_of hC)
  have hDc : va_D A wc := hD.sub isC hCn hC
  have hFc := va_free (wc := wc) hD hS hA isC hC
  have hgd := good_cons hcv.1
  refine cal_go (va_runS (As := As) (rest := rest) ⟨hx, hb, hml, hown, hts⟩ (hct H.size) ⟨callB_of n hts hgd rfl rfl rfl (hts _ hcv.1.2.1) (hts _ hcv.2.1) hcv.1.2.2 ⟨hR.1, hR.2.1⟩, hts _ hcv.2.2⟩ ⟨fun a U g mk q => ⟨q.1, q.2.1, q.2.2.1, q.2.2.2.1.call, q.2.2.2.2⟩, fun U hU hW => ⟨rfl, by rw [hU], by rw [hU]; exact hPc, hE.warm hW, hDc.weaken (fun _ _ _ _ => trivial)⟩⟩ rfl hn hl.1 rfl (lv_room hW) hd hR.2.2) hS (fun q _ h => hFc q h) hFc (fun u v t H1 locs1 ht hvm hq hv hP1 hD1 hz1 hk1 hS1 => ?_)
  rw [ht] at hP1
  obtain ⟨hP2, hD2⟩ := va_join (wr := wr) (w1 := w1 u) hP hD isC isR hC hRr hRn hdis hk1 hFc hP1 hD1
  subst hv
  exact k u hq H1 locs1 ls (hP2.sub pm (fm_of (hpm u))) (hD2.sub pm hpn (hpm u)) hS1 hl
theorem j_callSN {σ : Type} (h : Mh l D cy cc nL own R cells slots G) {G' : Gt} {y : MethodName} {cy2 : ByteArray} {nY : Nat} {ret : Option FieldType} {n index : Nat} (hcv : CSN own index y cy2 nY ret n) {rm : Room} {As : List Value} {wc : va_W} {Qp : σ → Prop} {r : σ → Option Value} {w1 : σ → va_W} (hct : Ct l D cy y cy2 nY ret rm As wc Qp r w1) (hR : rm.frames + 1 ≤ R.frames ∧ 8 + (nY + 11) + rm.locals ≤ R.locals ∧ cells + rm.cells ≤ R.cells ∧ slots + rm.slots ≤ R.slots) (hn : As.length = n) (isC isR pm : List Nat) (wr : va_W) (ws' : σ → va_W) (hC : isC.map (fun i => ws[i]?) = wc.map some) (hCn : va_nd isC = true) (hRr : isR.map (fun i => ws[i]?) = wr.map some) (hRn : va_nd isR = true) (hdis : ∀ i ∈ isR, i ∉ isC) (hpn : va_nd pm = true) (hpm : ∀ u, pm.map (fun i => (wr ++ w1 u)[i]?) = (ws' u).map some) (hW : (rest.map fun v => v.category).sum ≤ 8) (hd : decode cc pc = .ok (.invokestatic index, 3)) (hG : ∃ (p : Program) (e : Env) (s : State) (m : MethodId) (args : Array Value) (below : List Frame) (meth : Method) (c : Code) (A : Nat → Prop) (Q : State → Prop), Cx p s m args c A D cy cc nL own ∧ G = Jd p l e R s m args below meth c A D nL cells slots Q ∧ G' = Jd p l e R s m args below meth c A D nL (cells + rm.cells) (slots + rm.slots) Q) (k : ∀ u, Qp u → G' (ws' u) lv (pc + 3) ((r u).toList ++ rest)) : G ws lv pc (As.reverse ++ rest) := by
  obtain ⟨p, e, s, m, args, below, meth, c, A, Q, ⟨hx, hb, hml, hown, hts, hE, hA⟩, rfl, rfl⟩ := hG
  intro H locs ls hP hD hS hl
  have hPc : va_P D vwCl wc H := hP.sub isC (fm_of hC)
  have hDc : va_D A wc := hD.sub isC hCn hC
  have hFc := va_free (wc := wc) hD hS hA isC hC
  have hgd := good_cons hcv.1
  refine cal_go (va_runSN (As := As) (rest := rest) ⟨hx, hb, hml, hown, hts⟩ (hct H.size) ⟨va_cnB n hts hgd rfl rfl rfl (hE.2 _ hcv.2.1.choose_spec) (hts _ hcv.1.2.1) hcv.1.2.2 ⟨hR.1, hR.2.1⟩, hts _ hcv.2.2, trivial⟩ ⟨fun a U g mk q => ⟨q.1, q.2.1, q.2.2.1, q.2.2.2.1.call, q.2.2.2.2⟩, fun U hU hW => ⟨rfl, by rw [hU], by rw [hU]; exact hPc, hE.warm hW, hDc.weaken (fun _ _ _ _ => trivial)⟩⟩ rfl hn hl.1 rfl (lv_room hW) hd hR.2.2) hS (fun q _ h => hFc q h) hFc (fun u v t H1 locs1 ht hvm hq hv hP1 hD1 hz1 hk1 hS1 => ?_)
  rw [ht] at hP1
  obtain ⟨hP2, hD2⟩ := va_join (wr := wr) (w1 := w1 u) hP hD isC isR hC hRr hRn hdis hk1 hFc hP1 hD1
  subst hv
  exact k u hq H1 locs1 ls (hP2.sub pm (fm_of (hpm u))) (hD2.sub pm hpn (hpm u)) hS1 hl
theorem j_callI {σ : Type} (h : Mh l D cy cc nL own R cells slots G) {G' : Gt} {y : MethodName} {cy2 : ByteArray} {nY : Nat} {ret : Option FieldType} {n index : Nat} (hcv : CIf own index y cy2 nY n) {rm : Room} {b : Nat} {As : List Value} {wc : va_W} {Qp : σ → Prop} {r : σ → Option Value} {w1 : σ → va_W} (hct : Ct l D cy y cy2 nY none rm (.ref b :: As) wc Qp r w1) (hR : rm.frames + 1 ≤ R.frames ∧ 8 + (nY + 11) + rm.locals ≤ R.locals ∧ cells + rm.cells ≤ R.cells ∧ slots + rm.slots ≤ R.slots) (hn : As.length = n) (isC isR pm : List Nat) (wr : va_W) (ws' : σ → va_W) (hC : isC.map (fun i => ws[i]?) = wc.map some) (hCn : va_nd isC = true) (hRr : isR.map (fun i => ws[i]?) = wr.map some) (hRn : va_nd isR = true) (hdis : ∀ i ∈ isR, i ∉ isC) (hpn : va_nd pm = true) (hpm : ∀ u, pm.map (fun i => (wr ++ w1 u)[i]?) = (ws' u).map some) (hW : (rest.map fun v => v.category).sum ≤ 8) (hd : decode cc pc = .ok (.invokespecial index, 3)) (hG : ∃ (p : Program) (e : Env) (s : State) (m : MethodId) (args : Array Value) (below : List Frame) (meth : Method) (c : Code) (A : Nat → Prop) (Q : State → Prop), Cx p s m args c A D cy cc nL own ∧ G = Jd p l e R s m args below meth c A D nL cells slots Q ∧ G' = Jd p l e R s m args below meth c A D nL (cells + rm.cells) (slots + rm.slots) Q) (k : ∀ u, Qp u → G' (ws' u) lv (pc + 3) ((r u).toList ++ rest)) : G ws lv pc (As.reverse ++ .ref b :: rest) := by
  obtain ⟨p, e, s, m, args, below, meth, c, A, Q, ⟨hx, hb, hml, hown, hts, hE, hA⟩, rfl, rfl⟩ := hG
  intro H locs ls hP hD hS hl
  have hPc : va_P D vwCl wc H := hP.sub isC (fm_of hC)
  have hDc : va_D A wc := hD.sub isC hCn hC
  have hFc := va_free (wc := wc) hD hS hA isC hC
  have hgd := good_cons hcv.1
  refine cal_go (va_runI (As := As) (rest := rest) ⟨hx, hb, hml, hown, hts⟩ (hct H.size) ⟨callB_of n hts hgd rfl rfl rfl (hts _ hcv.1.2.1) (hts _ hcv.2.1) hcv.1.2.2 ⟨hR.1, hR.2.1⟩, hcv.2.2.2, hts _ hcv.2.2.1⟩ ⟨fun a U g mk q => ⟨q.1, q.2.1, q.2.2.1, q.2.2.2.1.call, q.2.2.2.2⟩, fun U hU hW => ⟨rfl, by rw [hU], by rw [hU]; exact hPc, hE.warm hW, hDc.weaken (fun _ _ _ _ => trivial)⟩⟩ rfl hn hl.1 rfl (lv_room hW) hd hR.2.2) hS (fun q _ h => hFc q h) hFc (fun u v t H1 locs1 ht hvm hq hv hP1 hD1 hz1 hk1 hS1 => ?_)
  rw [ht] at hP1
  obtain ⟨hP2, hD2⟩ := va_join (wr := wr) (w1 := w1 u) hP hD isC isR hC hRr hRn hdis hk1 hFc hP1 hD1
  subst hv
  exact k u hq H1 locs1 ls (hP2.sub pm (fm_of (hpm u))) (hD2.sub pm hpn (hpm u)) hS1 hl
theorem j_callIN {σ : Type} (h : Mh l D cy cc nL own R cells slots G) {G' : Gt} {y : MethodName} {cy2 : ByteArray} {nY : Nat} {ret : Option FieldType} {n index : Nat} (hcv : CIN own index y cy2 nY n) {rm : Room} {b : Nat} {As : List Value} {wc : va_W} {Qp : σ → Prop} {r : σ → Option Value} {w1 : σ → va_W} (hct : Ct l D cy y cy2 nY none rm (.ref b :: As) wc Qp r w1) (hR : rm.frames + 1 ≤ R.frames ∧ 8 + (nY + 11) + rm.locals ≤ R.locals ∧ cells + rm.cells ≤ R.cells ∧ slots + rm.slots ≤ R.slots) (hn : As.length = n) (isC isR pm : List Nat) (wr : va_W) (ws' : σ → va_W) (hC : isC.map (fun i => ws[i]?) = wc.map some) (hCn : va_nd isC = true) (hRr : isR.map (fun i => ws[i]?) = wr.map some) (hRn : va_nd isR = true) (hdis : ∀ i ∈ isR, i ∉ isC) (hpn : va_nd pm = true) (hpm : ∀ u, pm.map (fun i => (wr ++ w1 u)[i]?) = (ws' u).map some) (hW : (rest.map fun v => v.category).sum ≤ 8) (hd : decode cc pc = .ok (.invokespecial index, 3)) (hG : ∃ (p : Program) (e : Env) (s : State) (m : MethodId) (args : Array Value) (below : List Frame) (meth : Method) (c : Code) (A : Nat → Prop) (Q : State → Prop), Cx p s m args c A D cy cc nL own ∧ G = Jd p l e R s m args below meth c A D nL cells slots Q ∧ G' = Jd p l e R s m args below meth c A D nL (cells + rm.cells) (slots + rm.slots) Q) (k : ∀ u, Qp u → G' (ws' u) lv (pc + 3) ((r u).toList ++ rest)) : G ws lv pc (As.reverse ++ .ref b :: rest) := by
  obtain ⟨p, e, s, m, args, below, meth, c, A, Q, ⟨hx, hb, hml, hown, hts, hE, hA⟩, rfl, rfl⟩ := hG
  intro H locs ls hP hD hS hl
  have hPc : va_P D vwCl wc H := hP.sub isC (fm_of hC)
  have hDc : va_D A wc := hD.sub isC hCn hC
  have hFc := va_free (wc := wc) hD hS hA isC hC
  have hgd := good_cons hcv.1
  refine cal_go (va_runIN (As := As) (rest := rest) ⟨hx, hb, hml, hown, hts⟩ (hct H.size) ⟨va_cnB n hts hgd rfl rfl rfl (hE.2 _ hcv.2.1.choose_spec) (hts _ hcv.1.2.1) hcv.1.2.2 ⟨hR.1, hR.2.1⟩, hcv.2.2.2, hts _ hcv.2.2.1⟩ ⟨fun a U g mk q => ⟨q.1, q.2.1, q.2.2.1, q.2.2.2.1.call, q.2.2.2.2⟩, fun U hU hW => ⟨rfl, by rw [hU], by rw [hU]; exact hPc, hE.warm hW, hDc.weaken (fun _ _ _ _ => trivial)⟩⟩ rfl hn hl.1 rfl (lv_room hW) hd hR.2.2) hS (fun q _ h => hFc q h) hFc (fun u v t H1 locs1 ht hvm hq hv hP1 hD1 hz1 hk1 hS1 => ?_)
  rw [ht] at hP1
  obtain ⟨hP2, hD2⟩ := va_join (wr := wr) (w1 := w1 u) hP hD isC isR hC hRr hRn hdis hk1 hFc hP1 hD1
  subst hv
  exact k u hq H1 locs1 ls (hP2.sub pm (fm_of (hpm u))) (hD2.sub pm hpn (hpm u)) hS1 hl
/-- the same machine before and behind a call that makes no cell -/
theorem Mh.two (h : Mh l D cy cc nL own R cells slots G) : ∃ (p : Program) (e : Env) (s : State) (m : MethodId) (args : Array Value) (below : List Frame) (meth : Method) (c : Code) (A : Nat → Prop) (Q : State → Prop), Cx p s m args c A D cy cc nL own ∧ G = Jd p l e R s m args below meth c A D nL cells slots Q ∧ G = Jd p l e R s m args below meth c A D nL (cells + 0) (slots + 0) Q := by
  obtain ⟨p, e, s, m, args, below, meth, c, A, Q, hC, rfl⟩ := h
  exact ⟨p, e, s, m, args, below, meth, c, A, Q, hC, rfl, rfl⟩
end CALC
theorem Ct_ofI {σ : Type} {l : Launch} {D : va_G} {cy : ClassId} {y : MethodName} {cc : ByteArray} {nL fr lo : Nat} {ty : FieldType} {av : List Value} {w0 : va_W} {Qp : σ → Prop} {r : σ → Option Value} {w1 : σ → va_W} (hy : plainName y.cls = true) (hav : (lg_sl av).length ≤ nL) (lv0 : List (Nat × Value)) (hlv : lv_args 0 av = lv0)
    (body : ∀ G : Gt, Mh l D cy cc nL y.cls { frames := fr, cells := 0, slots := 0, locals := lo } 0 0 G → (∀ (u : σ) (ws : va_W) (lv : List (Nat × Value)) (pc : Nat) (v : Int32), Qp u → ws = w1 u → some (.int v) = r u → narrow ty (.int v) = .int v → decode cc pc = .ok (.ireturn, 1) → G ws lv pc [.int v]) → G w0 lv0 0 []) : Ct l D cy y cc nL (some ty) { frames := fr, cells := 0, slots := 0, locals := lo } av w0 Qp r w1 := by
  intro sz
  refine Met.ofW (cc := cc) (maxL := nL) (ret := (some ty)) hy rfl ?_
  intro p e s m args below meth c s₁ B hml hv
  obtain ⟨rfl, hsz, hP, hE, hD0⟩ := hv
  have hx := B.exec
  have hb := B.bytes
  have hr := B.returns
  have hts := atoms_spec (ws := Cond.code y cc nL (some ty) :: bw) B.pre
  have hown : s.vm.findClass y.cls = some m.cls := findClass_of_methodNamed B.named
  have hlocks := B.notSynchronized
  subst hsz
  have hD := hD0.self (sz := s.heap.size)
  rw [lg_entry_eq]
  subst hlv
  refine body (Jd p l e _ s m av.toArray below meth c (va_A w0 s.heap.size) D nL 0 0 _) ⟨p, e, s, m, _, below, meth, c, _, _, ⟨hx, hb, hml, hown, fun w hw => hts w (List.mem_cons_of_mem _ hw), hE, fun q h => Or.inr h⟩, rfl⟩ ?_ s.heap [] _ hP hD va_S.rf (lv_entry av hav)
  intro u ws lv pc v hq hw hv hn hd H locs ls hP hD hS hl
  subst hw
  exact W.zret hx hb hr hn (fun t ht hW => ⟨⟨u, hq, by rw [hv], by rw [ht]; exact hP, hD⟩, hS.F ht⟩) hS.2.2 hd hlocks
theorem Ct_ofL {σ : Type} {l : Launch} {D : va_G} {cy : ClassId} {y : MethodName} {cc : ByteArray} {nL fr lo : Nat} {av : List Value} {w0 : va_W} {Qp : σ → Prop} {r : σ → Option Value} {w1 : σ → va_W} (hy : plainName y.cls = true) (hav : (lg_sl av).length ≤ nL) (lv0 : List (Nat × Value)) (hlv : lv_args 0 av = lv0)
    (body : ∀ G : Gt, Mh l D cy cc nL y.cls { frames := fr, cells := 0, slots := 0, locals := lo } 0 0 G → (∀ (u : σ) (ws : va_W) (lv : List (Nat × Value)) (pc : Nat) (v : Int64), Qp u → ws = w1 u → some (.long v) = r u → decode cc pc = .ok (.lreturn, 1) → G ws lv pc [.long v]) → G w0 lv0 0 []) : Ct l D cy y cc nL (some .long) { frames := fr, cells := 0, slots := 0, locals := lo } av w0 Qp r w1 := by
  intro sz
  refine Met.ofW (cc := cc) (maxL := nL) (ret := (some .long)) hy rfl ?_
  intro p e s m args below meth c s₁ B hml hv
  obtain ⟨rfl, hsz, hP, hE, hD0⟩ := hv
  have hx := B.exec
  have hb := B.bytes
  have hr := B.returns
  have hts := atoms_spec (ws := Cond.code y cc nL (some .long) :: bw) B.pre
  have hown : s.vm.findClass y.cls = some m.cls := findClass_of_methodNamed B.named
  have hlocks := B.notSynchronized
  subst hsz
  have hD := hD0.self (sz := s.heap.size)
  rw [lg_entry_eq]
  subst hlv
  refine body (Jd p l e _ s m av.toArray below meth c (va_A w0 s.heap.size) D nL 0 0 _) ⟨p, e, s, m, _, below, meth, c, _, _, ⟨hx, hb, hml, hown, fun w hw => hts w (List.mem_cons_of_mem _ hw), hE, fun q h => Or.inr h⟩, rfl⟩ ?_ s.heap [] _ hP hD va_S.rf (lv_entry av hav)
  intro u ws lv pc v hq hw hv hd H locs ls hP hD hS hl
  subst hw
  exact W.lret hx hb hr (fun t ht hW => ⟨⟨u, hq, by rw [hv], by rw [ht]; exact hP, hD⟩, hS.F ht⟩) hS.2.2 hd hlocks
theorem Ct_ofV {σ : Type} {l : Launch} {D : va_G} {cy : ClassId} {y : MethodName} {cc : ByteArray} {nL fr lo : Nat} {av : List Value} {w0 : va_W} {Qp : σ → Prop} {r : σ → Option Value} {w1 : σ → va_W} (hy : plainName y.cls = true) (hav : (lg_sl av).length ≤ nL) (lv0 : List (Nat × Value)) (hlv : lv_args 0 av = lv0)
    (body : ∀ G : Gt, Mh l D cy cc nL y.cls { frames := fr, cells := 0, slots := 0, locals := lo } 0 0 G → (∀ (u : σ) (ws : va_W) (lv : List (Nat × Value)) (pc : Nat), Qp u → ws = w1 u → none = r u → decode cc pc = .ok (.return_, 1) → G ws lv pc []) → G w0 lv0 0 []) : Ct l D cy y cc nL none { frames := fr, cells := 0, slots := 0, locals := lo } av w0 Qp r w1 := by
  intro sz
  refine Met.ofW (cc := cc) (maxL := nL) (ret := none) hy rfl ?_
  intro p e s m args below meth c s₁ B hml hv
  obtain ⟨rfl, hsz, hP, hE, hD0⟩ := hv
  have hx := B.exec
  have hb := B.bytes
  have hr := B.returns
  have hts := atoms_spec (ws := Cond.code y cc nL none :: bw) B.pre
  have hown : s.vm.findClass y.cls = some m.cls := findClass_of_methodNamed B.named
  have hlocks := B.notSynchronized
  subst hsz
  have hD := hD0.self (sz := s.heap.size)
  rw [lg_entry_eq]
  subst hlv
  refine body (Jd p l e _ s m av.toArray below meth c (va_A w0 s.heap.size) D nL 0 0 _) ⟨p, e, s, m, _, below, meth, c, _, _, ⟨hx, hb, hml, hown, fun w hw => hts w (List.mem_cons_of_mem _ hw), hE, fun q h => Or.inr h⟩, rfl⟩ ?_ s.heap [] _ hP hD va_S.rf (lv_entry av hav)
  intro u ws lv pc hq hw hv hd H locs ls hP hD hS hl
  subst hw
  exact W.vret hx hb hr (fun t ht hW => ⟨⟨u, hq, by rw [hv], by rw [ht]; exact hP, hD⟩, hS.F ht⟩) hS.2.2 hd hlocks
theorem Ct_ofR {σ : Type} {l : Launch} {D : va_G} {cy : ClassId} {y : MethodName} {cc : ByteArray} {nL fr lo : Nat} {C : String} {av : List Value} {w0 : va_W} {Qp : σ → Prop} {r : σ → Option Value} {w1 : σ → va_W} (hy : plainName y.cls = true) (hav : (lg_sl av).length ≤ nL) (lv0 : List (Nat × Value)) (hlv : lv_args 0 av = lv0)
    (body : ∀ G : Gt, Mh l D cy cc nL y.cls { frames := fr, cells := 0, slots := 0, locals := lo } 0 0 G → (∀ (u : σ) (ws : va_W) (lv : List (Nat × Value)) (pc : Nat) (v : Nat), Qp u → ws = w1 u → some (.ref v) = r u → decode cc pc = .ok (.areturn, 1) → G ws lv pc [.ref v]) → G w0 lv0 0 []) : Ct l D cy y cc nL (some (.object C)) { frames := fr, cells := 0, slots := 0, locals := lo } av w0 Qp r w1 := by
  intro sz
  refine Met.ofW (cc := cc) (maxL := nL) (ret := (some (.object C))) hy rfl ?_
  intro p e s m args below meth c s₁ B hml hv
  obtain ⟨rfl, hsz, hP, hE, hD0⟩ := hv
  have hx := B.exec
  have hb := B.bytes
  have hr := B.returns
  have hts := atoms_spec (ws := Cond.code y cc nL (some (.object C)) :: bw) B.pre
  have hown : s.vm.findClass y.cls = some m.cls := findClass_of_methodNamed B.named
  have hlocks := B.notSynchronized
  subst hsz
  have hD := hD0.self (sz := s.heap.size)
  rw [lg_entry_eq]
  subst hlv
  refine body (Jd p l e _ s m av.toArray below meth c (va_A w0 s.heap.size) D nL 0 0 _) ⟨p, e, s, m, _, below, meth, c, _, _, ⟨hx, hb, hml, hown, fun w hw => hts w (List.mem_cons_of_mem _ hw), hE, fun q h => Or.inr h⟩, rfl⟩ ?_ s.heap [] _ hP hD va_S.rf (lv_entry av hav)
  intro u ws lv pc v hq hw hv hd H locs ls hP hD hS hl
  subst hw
  exact W.aret hx hb hr (Or.inl ⟨_, rfl⟩) (Or.inr ⟨_, rfl⟩) (fun t ht hW => ⟨⟨u, hq, by rw [hv], by rw [ht]; exact hP, hD⟩, hS.F ht⟩) hS.2.2 hd hlocks
/-- a constructor: from any machine, its walk with its cells counted -/
theorem Ct_ofC {σ : Type} {l : Launch} {D : va_G} {cy : ClassId} {y : MethodName} {cc : ByteArray} {nL : Nat} {rm : Room} {av : List Value} {w0 : va_W} {Qp : σ → Prop} {r : σ → Option Value} {w1 : σ → va_W} (hy : plainName y.cls = true) (hyi : y.name = "<init>") (hav : (lg_sl av).length ≤ nL) (lv0 : List (Nat × Value)) (hlv : lv_args 0 av = lv0)
    (body : ∀ (p : Program) (e : Env) (s : State) (m : MethodId) (args : Array Value) (below : List Frame) (meth : Method) (c : Code) (A : Nat → Prop) (Q : State → Prop), Cx p s m args c A D cy cc nL y.cls → meth.name = "<init>" → (∀ (u : σ) (ws : va_W) (lv : List (Nat × Value)) (pc : Nat), Qp u → ws = w1 u → none = r u → decode cc pc = .ok (.return_, 1) → Jd p l e rm s m args below meth c A D nL rm.cells rm.slots Q ws lv pc []) → Jd p l e rm s m args below meth c A D nL 0 0 Q w0 lv0 0 []) : Ct l D cy y cc nL none rm av w0 Qp r w1 := by
  intro sz
  refine Met.ofW (cc := cc) (maxL := nL) (ret := none) hy rfl ?_
  intro p e s m args below meth c s₁ B hml hv
  obtain ⟨rfl, hsz, hP, hE, hD0⟩ := hv
  have hx := B.exec
  have hb := B.bytes
  have hr := B.returns
  have hts := atoms_spec (ws := Cond.code y cc nL none :: bw) B.pre
  have hown : s.vm.findClass y.cls = some m.cls := findClass_of_methodNamed B.named
  have hlocks := B.notSynchronized
  have hin : meth.name = "<init>" := (name_of_methodNamed B.named B.method).1.trans hyi
  subst hsz
  have hD := hD0.self (sz := s.heap.size)
  rw [lg_entry_eq]
  subst hlv
  refine body p e s m av.toArray below meth c (va_A w0 s.heap.size) _ ⟨hx, hb, hml, hown, fun w hw => hts w (List.mem_cons_of_mem _ hw), hE, fun q h => Or.inr h⟩ hin ?_ s.heap [] _ hP hD va_S.rf (lv_entry av hav)
  intro u ws lv pc hq hw hv hd H locs ls hP hD hS hl
  subst hw
  exact W.vret hx hb hr (fun t ht hW => ⟨⟨u, hq, by rw [hv], by rw [ht]; exact hP, hD⟩, hS.F ht⟩) hS.2.2 hd hlocks
