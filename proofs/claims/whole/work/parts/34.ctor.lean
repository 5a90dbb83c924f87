/-! making cells: the judgement with its count of cells and slots -/
def Mj (l : Launch) (D : va_G) (cy : ClassId) (cc : ByteArray) (nL : Nat) (own : String) (R : Room) (ini : Bool) (J : Nat → Nat → Gt) : Prop :=
  ∃ (p : Program) (e : Env) (s : State) (m : MethodId) (args : Array Value) (below : List Frame) (meth : Method) (c : Code) (A : Nat → Prop) (Q : State → Prop), Cx p s m args c A D cy cc nL own ∧ (ini = true → meth.name = "<init>") ∧ J = fun n k => Jd p l e R s m args below meth c A D nL n k Q
section CTOR
variable {l : Launch} {D : va_G} {cy : ClassId} {cc : ByteArray} {nL : Nat} {own : String} {R : Room} {ini : Bool} {J : Nat → Nat → Gt} {ws : va_W} {lv : List (Nat × Value)} {pc : Nat} {rest : List Value}
theorem Mj.at (h : Mj l D cy cc nL own R ini J) (n k : Nat) : Mh l D cy cc nL own R n k (J n k) := by
  obtain ⟨p, e, s, m, args, below, meth, c, A, Q, hC, hini, rfl⟩ := h
  exact ⟨p, e, s, m, args, below, meth, c, A, Q, hC, rfl⟩
theorem Mj.two (h : Mj l D cy cc nL own R ini J) (n k a b : Nat) : ∃ (p : Program) (e : Env) (s : State) (m : MethodId) (args : Array Value) (below : List Frame) (meth : Method) (c : Code) (A : Nat → Prop) (Q : State → Prop), Cx p s m args c A D cy cc nL own ∧ J n k = Jd p l e R s m args below meth c A D nL n k Q ∧ J (n + a) (k + b) = Jd p l e R s m args below meth c A D nL (n + a) (k + b) Q := by
  obtain ⟨p, e, s, m, args, below, meth, c, A, Q, hC, hini, rfl⟩ := h
  exact ⟨p, e, s, m, args, below, meth, c, A, Q, hC, rfl, rfl⟩
theorem j_new (h : Mj l D cy cc nL own R ini J) {n k index ci N : Nat} {C : String} {T : u_T} (ty : Nat → FieldType) (fs : List Value) (hc : vwCl[ci]? = some (C, T, N)) (hin : ∀ w ∈ u_ws C T N, w ∈ bw) (hty : ∀ k, k < N → parseFieldDescriptor (T k).2.2.1 = some (ty k)) (hcl : Cond.classLink own index C ∈ bw) (hib : Cond.instantiable C N ∈ bw) (hiz : Cond.initialized C ∈ bw) (hfs : ∀ j, j < N → defaultValue (ty j) = vp_V fs j) (hR : n + 1 ≤ R.cells ∧ k + N ≤ R.slots) (hd : decode cc pc = .ok (.new index, 3)) (kk : ∀ q, J (n + 1) (k + N) (ws ++ [(q, .inr (ci, fs))]) lv (pc + 3) (.ref q :: rest)) : J n k ws lv pc rest := by
  obtain ⟨p, e, s, m, args, below, meth, c, A, Q, ⟨hx, hb, hml, hown, hts, hE, hA⟩, hini, rfl⟩ := h
  intro H locs ls hP hD hS hl
  exact va_new hx hb hts hin ty hty hown (hts _ hcl) (hts _ hib) (hts _ hiz) hE.1 hP hD hS hA hc hfs hR.1 hR.2 hd (fun q H1 hP1 hD1 hS1 => kk q H1 locs ls hP1 hD1 hS1 hl)
theorem j_newa (h : Mj l D cy cc nL own R ini J) {n k : Nat} (N : Nat) (hN : N < 2147483648) (hby : N * componentBytes .int ≤ 536870912) (hR : n + 1 ≤ R.cells ∧ k + N ≤ R.slots) (hd : decode cc pc = .ok (.newarray .int, 2)) (kk : ∀ q, J (n + 1) (k + N) (ws ++ [(q, arC cy N (fun _ => 0))]) lv (pc + 2) (.ref q :: rest)) : J n k ws lv pc (.int (nI N) :: rest) := by
  obtain ⟨p, e, s, m, args, below, meth, c, A, Q, ⟨hx, hb, hml, hown, hts, hE, hA⟩, hini, rfl⟩ := h
  intro H locs ls hP hD hS hl
  refine va_newa (atype := .int) (ty := .int) (a0 := (N, .inl (fun _ => nI 0))) hx hb (hts _ mw_arr) rfl hE.1 hP hD hS hA (fun cA => by rw [vp_cell_i]; rfl) (fun q => by rw [i0_lt hN] at q; exact q) (ncl hN) hby hR.1 hR.2 hd (fun q cA H1 hK1 hP1 hD1 hS1 => ?_)
  have e1 := (hK1.2 0 (cy, .int) rfl).2
  have e2 := (hK1.2 1 (cA, .int) rfl).2
  have e3 : cA = cy := Option.some.inj (e2.symm.trans e1)
  subst e3
  exact kk q H1 locs ls hP1 hD1 hS1 hl
theorem j_putF (h : Mj l D cy cc nL own R true J) {n k index ci f a : Nat} {ty : FieldType} {fs : List Value} {v : Value} (hf : Fp own index ci f true ty) (ws' : va_W) (q0 : Nat) (he : ws[q0]? = some (a, .inr (ci, fs))) (hl : f < fs.length) (hn : narrow ty v = v) (hfit : fits ty v = true) (hw : ws.set q0 (a, .inr (ci, fs.set f v)) = ws') (hd : decode cc pc = .ok (.putfield index, 3)) (kk : J n k ws' lv (pc + 3) rest) : J n k ws lv pc (v :: .ref a :: rest) := by
  obtain ⟨p, e, s, m, args, below, meth, c, A, Q, ⟨hx, hb, hml, hown, hts, hE, hA⟩, hini, rfl⟩ := h
  obtain ⟨C, T, N, ty0, g1, g2, g3, g4, g5, g6, g7, g8, g9⟩ := hf
  subst hw
  intro H locs ls hP hD hS hlv
  exact va_putF hx hb hts g1 ty0 g5 g6 hown hE.1 hP hD hS q0 he g2 f g3 (hts _ g4) (fun _ z => z) g7 (hini rfl) (g9 rfl) g8 hn hfit hl hd (fun H1 locs1 hP1 hD1 hS1 => kk H1 locs1 ls hP1 hD1 hS1 hlv)
theorem j_obj (h : Mj l D cy cc nL own R ini J) {n k index a : Nat} (hw : Cond.methodLink own index objectInit ∈ bw) (hR : 1 ≤ R.frames ∧ 12 ≤ R.locals) (hd : decode cc pc = .ok (.invokespecial index, 3)) (kk : J n k ws lv (pc + 3) []) : J n k ws lv pc [.ref a] := by
  obtain ⟨p, e, s, m, args, below, meth, c, A, Q, ⟨hx, hb, hml, hown, hts, hE, hA⟩, hini, rfl⟩ := h
  intro H locs ls hP hD hS hl
  refine W.objInit hx hb hown (hts _ hw) (hts _ mw_obj.1) (hts _ mw_obj.2) rfl (by rw [hml]; exact hl.1) rfl hd ?_ ?_ ?_
  · exact hR.1
  · exact hR.2
  · exact kk H locs ls hP hD hS hl
end CTOR
theorem Ct_ofJ {σ : Type} {l : Launch} {D : va_G} {cy : ClassId} {y : MethodName} {cc : ByteArray} {nL : Nat} {rm : Room} {av : List Value} {w0 : va_W} {Qp : σ → Prop} {r : σ → Option Value} {w1 : σ → va_W} (hy : plainName y.cls = true) (hyi : y.name = "<init>") (hav : (lg_sl av).length ≤ nL) (lv0 : List (Nat × Value)) (hlv : lv_args 0 av = lv0)
    (body : ∀ J : Nat → Nat → Gt, Mj l D cy cc nL y.cls rm true J → (∀ (u : σ) (ws : va_W) (lv : List (Nat × Value)) (pc : Nat), Qp u → ws = w1 u → none = r u → decode cc pc = .ok (.return_, 1) → J rm.cells rm.slots ws lv pc []) → J 0 0 w0 lv0 0 []) : Ct l D cy y cc nL none rm av w0 Qp r w1 :=
  Ct_ofC hy hyi hav lv0 hlv (fun p e s m args below meth c A Q hC hin hret => body (fun n k => Jd p l e rm s m args below meth c A D nL n k Q) ⟨p, e, s, m, args, below, meth, c, A, Q, hC, fun _ => hin, rfl⟩ hret)
