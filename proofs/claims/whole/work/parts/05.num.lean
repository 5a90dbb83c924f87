/-! numbers: a cell's ints are nI of Nats; rows for the walks -/
abbrev arC (cy : ClassId) (n : Nat) (f : Nat → Nat) : va_E := .inl (cy, n, .inl (fun j => nI (f j)))
theorem upd_up (f : Nat → Nat) (i v : Nat) : upd (fun j => nI (f j)) i (nI v) = fun j => nI (va_up f i v j) := by
  funext j
  simp only [upd, va_up]
  split <;> rfl
theorem ncl {i : Nat} (h : i < 2147483648) : (nI i).toNatClampNeg = i := nI_clamp h
theorem nti {i : Nat} (h : i < 2147483648) : (nI i).toInt = (i : Int) := nI_toInt h
theorem vin {i n : Nat} (h : i < n) (hn : n < 2147483648) : vp_in (nI i) n := vp_in_nI h hn
theorem cLE {a b : Nat} (ha : a < 2147483648) (hb : b < 2147483648) : nI a ≤ nI b ↔ a ≤ b := nI_leI ha hb
theorem cLT {a b : Nat} (ha : a < 2147483648) (hb : b < 2147483648) : nI a < nI b ↔ a < b := nI_ltI ha hb
theorem cEQ {a b : Nat} (ha : a < 2147483648) (hb : b < 2147483648) : nI a = nI b ↔ a = b := nI_eq ha hb
theorem i0 : nI 0 = 0 := nI_0
theorem i0_eq {a : Nat} (h : a < 2147483648) : nI a = 0 ↔ a = 0 := by rw [← i0]; exact cEQ h (by decide)
theorem i0_lt {a : Nat} (h : a < 2147483648) : nI a < 0 ↔ False := by rw [← i0, cLT h (by decide)]; exact ⟨fun q => absurd q (Nat.not_lt_zero a), fun q => q.elim⟩
theorem i0_ge {a : Nat} (h : a < 2147483648) : 0 ≤ nI a ↔ True := by rw [← i0, cLE (by decide) h]; exact ⟨fun _ => trivial, fun _ => Nat.zero_le a⟩
theorem i0_gt {a : Nat} (h : a < 2147483648) : 0 < nI a ↔ 0 < a := by rw [← i0, cLT (by decide) h]
theorem i0_le {a : Nat} (h : a < 2147483648) : nI a ≤ 0 ↔ a = 0 := by rw [← i0, cLE h (by decide)]; omega
theorem zzLT (x y : Int32) : x < y ↔ x.toInt < y.toInt := Int32.lt_iff_toInt_lt
theorem zzLE (x y : Int32) : x ≤ y ↔ x.toInt ≤ y.toInt := Int32.le_iff_toInt_le
theorem zzEQ (x y : Int32) : x = y ↔ x.toInt = y.toInt := Int32.toInt_inj.symm
theorem zLT {x : Int32} {b : Nat} (h : b < 2147483648) : x < nI b ↔ x.toInt < b := by rw [zzLT, nti h]
theorem zLE {x : Int32} {b : Nat} (h : b < 2147483648) : x ≤ nI b ↔ x.toInt ≤ b := by rw [zzLE, nti h]
theorem zGT {x : Int32} {b : Nat} (h : b < 2147483648) : nI b < x ↔ (b : Int) < x.toInt := by rw [zzLT, nti h]
theorem zGE {x : Int32} {b : Nat} (h : b < 2147483648) : nI b ≤ x ↔ (b : Int) ≤ x.toInt := by rw [zzLE, nti h]
theorem zEQ {x : Int32} {b : Nat} (h : b < 2147483648) : x = nI b ↔ x.toInt = b := by rw [zzEQ, nti h]
theorem zQE {x : Int32} {b : Nat} (h : b < 2147483648) : nI b = x ↔ (b : Int) = x.toInt := by rw [zzEQ, nti h]
theorem z0_lt {x : Int32} : x < 0 ↔ x.toInt < 0 := by rw [zzLT]; rfl
theorem z0_le {x : Int32} : x ≤ 0 ↔ x.toInt ≤ 0 := by rw [zzLE]; rfl
theorem z0_gt {x : Int32} : 0 < x ↔ 0 < x.toInt := by rw [zzLT]; rfl
theorem z0_ge {x : Int32} : 0 ≤ x ↔ 0 ≤ x.toInt := by rw [zzLE]; rfl
theorem z0_eq {x : Int32} : x = 0 ↔ x.toInt = 0 := by rw [zzEQ]; rfl
theorem z_nat {x : Int32} (h : 0 ≤ x.toInt) : ∃ n : Nat, n < 2147483648 ∧ x = nI n := nI_of (fun q => by rw [z0_lt] at q; omega)
theorem zi (x : Int32) : -2147483648 ≤ x.toInt ∧ x.toInt < 2147483648 := ⟨Int32.le_toInt x, Int32.toInt_lt x⟩
theorem b0_eq {P : Prop} [Decidable P] : nI (if P then 1 else 0) = 0 ↔ ¬ P := by
  split
  · rename_i h; exact ⟨fun q => absurd q (by decide), fun q => absurd h q⟩
  · rename_i h; exact ⟨fun _ => h, fun _ => rfl⟩
theorem nbool {b : Nat} (h : b ≤ 1) : narrow .boolean (.int (nI b)) = .int (nI b) := by
  rcases (show b = 0 ∨ b = 1 by omega) with rfl | rfl <;> rfl
theorem fbool {b : Nat} (h : b ≤ 1) : fits .boolean (.int (nI b)) = true := by
  rcases (show b = 0 ∨ b = 1 by omega) with rfl | rfl <;> rfl
theorem ifle1 {P : Prop} [Decidable P] : (if P then 1 else 0) ≤ 1 := by split <;> decide
theorem nsub {a b : Nat} (h : b ≤ a) : nI a - nI b = nI (a - b) := pk_sub h
theorem nmul (a b : Nat) : nI a * nI b = nI (a * b) := pk_mul a b
theorem ndiv {a d : Nat} (ha : a < 2147483648) (h0 : 0 < d) (hd : d < 2147483648) : nI a / nI d = nI (a / d) := pk_div ha h0 hd
theorem nrem {a d : Nat} (ha : a < 2147483648) (h0 : 0 < d) (hd : d < 2147483648) : nI a - nI a / nI d * nI d = nI (a % d) := pk_rem ha h0 hd
theorem nne0 {d : Nat} (h0 : 0 < d) (hd : d < 2147483648) : ¬ nI d = 0 := nI_ne0 h0 hd
theorem nsm : ∀ n, n < 32 → ((nI n &&& 31).toBitVec.smod 32).toNat = n := by decide +kernel
theorem nshl {a n : Nat} (hn : n < 32) (h : a * 2 ^ n < 4294967296) : nI a <<< (nI n &&& 31) = nI (a * 2 ^ n) := pk_shlN _ n (nsm n hn) h
theorem nshr {a n : Nat} (hn : n < 32) (h : a < 2147483648) : nI a >>> (nI n &&& 31) = nI (a / 2 ^ n) := pk_shrN h _ n (nsm n hn)
theorem nand (a b : Nat) : nI a &&& nI b = nI (a &&& b) := by
  apply Int32.toBitVec_inj.mp
  show (BitVec.ofNat 32 a) &&& (BitVec.ofNat 32 b) = BitVec.ofNat 32 (a &&& b)
  apply BitVec.eq_of_getLsbD_eq
  intro i hi
  simp [hi]
theorem nor (a b : Nat) : nI a ||| nI b = nI (a ||| b) := by
  apply Int32.toBitVec_inj.mp
  show (BitVec.ofNat 32 a) ||| (BitVec.ofNat 32 b) = BitVec.ofNat 32 (a ||| b)
  apply BitVec.eq_of_getLsbD_eq
  intro i hi
  simp [hi]
theorem nmax {a b m : Nat} (ha : a < 2147483648) (hb : b < 2147483648) (hm : max a b = m) : (if nI a < nI b then nI b else nI a) = nI m := by
  subst hm
  by_cases h : a < b
  · rw [if_pos ((cLT ha hb).mpr h), Nat.max_eq_right (Nat.le_of_lt h)]
  · rw [if_neg (fun q => h ((cLT ha hb).mp q)), Nat.max_eq_left (by omega)]
theorem nmin {a b m : Nat} (ha : a < 2147483648) (hb : b < 2147483648) (hm : min a b = m) : (if nI b < nI a then nI b else nI a) = nI m := by
  subst hm
  by_cases h : b < a
  · rw [if_pos ((cLT hb ha).mpr h), Nat.min_eq_right (Nat.le_of_lt h)]
  · rw [if_neg (fun q => h ((cLT hb ha).mp q)), Nat.min_eq_left (by omega)]
/-- 0 or the difference, whichever is larger -/
theorem nmaxS {a b : Nat} (ha : a < 1073741824) (hb : b < 1073741824) : (if nI 0 < nI a - nI b then nI a - nI b else nI 0) = nI (a - b) := by
  have e := pk_sub_toInt (a := a) (b := b) ha hb
  by_cases h : b < a
  · rw [if_pos (by rw [zzLT, e, nti (by decide)]; omega), nsub (by omega)]
  · rw [if_neg (by rw [zzLT, e, nti (by decide)]; omega), show a - b = 0 by omega]
theorem lb {a b : Nat} (h : Nat.ble a b = true) : a ≤ b := Nat.le_of_ble_eq_true h
theorem sI {a b : Nat} (h : a = b) : some (Value.int (nI a)) = some (Value.int (nI b)) := by rw [h]
theorem eq1 {α β : Type} (f : α → β) {a a' : α} (h : a = a') : f a = f a' := by rw [h]
theorem eq2 {α α2 β : Type} (f : α → α2 → β) {a a' : α} {b b' : α2} (h : a = a') (h2 : b = b') : f a b = f a' b' := by rw [h, h2]
theorem eq3 {α α2 α3 β : Type} (f : α → α2 → α3 → β) {a a' : α} {b b' : α2} {c c' : α3} (h : a = a') (h2 : b = b') (h3 : c = c') : f a b c = f a' b' c' := by rw [h, h2, h3]
theorem eq4 {α α2 α3 α4 β : Type} (f : α → α2 → α3 → α4 → β) {a a' : α} {b b' : α2} {c c' : α3} {d d' : α4} (h : a = a') (h2 : b = b') (h3 : c = c') (h4 : d = d') : f a b c d = f a' b' c' d' := by rw [h, h2, h3, h4]
theorem eq5 {α α2 α3 α4 α5 β : Type} (f : α → α2 → α3 → α4 → α5 → β) {a a' : α} {b b' : α2} {c c' : α3} {d d' : α4} {e e' : α5} (h : a = a') (h2 : b = b') (h3 : c = c') (h4 : d = d') (h5 : e = e') : f a b c d e = f a' b' c' d' e' := by rw [h, h2, h3, h4, h5]
section NUM
variable {l : Launch} {D : va_G} {cy : ClassId} {cc : ByteArray} {nL : Nat} {own : String} {R : Room} {cells slots : Nat} {G : Gt} {ws : va_W} {lv : List (Nat × Value)} {pc : Nat} {rest : List Value}
theorem j_ldN (h : Mh l D cy cc nL own R cells slots G) {a n : Nat} {F : Nat → Nat} {i v : Nat} (q0 : Nat) (he : ws[q0]? = some (a, arC cy n F)) (hi : i < n) (hn : n < 2147483648) (hv : F i = v) (hd : decode cc pc = .ok (.iaload, 1)) (k : G ws lv (pc + 1) (.int (nI v) :: rest)) : G ws lv pc (.int (nI i) :: .ref a :: rest) :=
  j_iald h q0 he (vin hi hn) (by rw [ncl (by omega), hv]) hd k
theorem j_stN (h : Mh l D cy cc nL own R cells slots G) {a n : Nat} {F : Nat → Nat} {i v : Nat} (ws' : va_W) (q0 : Nat) (he : ws[q0]? = some (a, arC cy n F)) (hi : i < n) (hn : n < 2147483648) (hw : ws.set q0 (a, arC cy n (va_up F i v)) = ws') (hd : decode cc pc = .ok (.iastore, 1)) (k : G ws' lv (pc + 1) rest) : G ws lv pc (.int (nI v) :: .int (nI i) :: .ref a :: rest) :=
  j_iast h ws' q0 he (vin hi hn) (by rw [ncl (by omega), upd_up]; exact hw) hd k
theorem j_arN (h : Mh l D cy cc nL own R cells slots G) {a n : Nat} {f g : Nat → Nat} (ws' : va_W) (q0 : Nat) (he : ws[q0]? = some (a, arC cy n f)) (hfg : ∀ i, i < n → f i = g i) (hw : ws.set q0 (a, arC cy n g) = ws') (k : G ws' lv pc rest) : G ws lv pc rest :=
  j_arr h ws' q0 he (fun i hi => by rw [hfg i hi]) hw k
theorem j_eqw {ws' : va_W} (e : ws = ws') (k : G ws' lv pc rest) : G ws lv pc rest := by rw [e]; exact k
theorem j_eqs {rest' : List Value} (e : rest = rest') (k : G ws lv pc rest') : G ws lv pc rest := by rw [e]; exact k
theorem j_eql {lv' : List (Nat × Value)} (e : lv = lv') (k : G ws lv' pc rest) : G ws lv pc rest := by rw [e]; exact k
theorem j_tsN (h : Mh l D cy cc nL own R cells slots G) {dflt lo hi : Int} {offs : Array Int} {len : Nat} {a : Nat} {off : Int} (i : Nat) (tgt : Nat) (hd : decode cc pc = .ok (.tableswitch dflt lo hi offs, len)) (ha : a = i) (hi1 : i < 2147483648) (h1 : lo ≤ i) (h2 : (i : Int) ≤ hi) (ho : offs[((i : Int) - lo).toNat]? = some off) (ht : (pc : Int) + off = (tgt : Int)) (k : G ws lv tgt rest) : G ws lv pc (.int (nI a) :: rest) := by
  subst ha
  exact j_tsIn h tgt hd (by rw [nti hi1]; omega) (by rw [nti hi1]; omega) (by rw [nti hi1]; exact ho) ht k
theorem j_tsM (h : Mh l D cy cc nL own R cells slots G) {dflt lo hi : Int} {offs : Array Int} {len : Nat} {a : Nat} (tgt : Nat) (hd : decode cc pc = .ok (.tableswitch dflt lo hi offs, len)) (ha : a < 2147483648) (h1 : (a : Int) < lo ∨ hi < a) (ht : (pc : Int) + dflt = (tgt : Int)) (k : G ws lv tgt rest) : G ws lv pc (.int (nI a) :: rest) :=
  j_tsOut h tgt hd (by rw [nti ha]; exact h1) ht k
theorem j_tsZ (h : Mh l D cy cc nL own R cells slots G) {dflt lo hi : Int} {offs : Array Int} {len : Nat} {x : Int32} {off : Int} (i : Int) (tgt : Nat) (hd : decode cc pc = .ok (.tableswitch dflt lo hi offs, len)) (ha : x.toInt = i) (h1 : lo ≤ i) (h2 : i ≤ hi) (ho : offs[(i - lo).toNat]? = some off) (ht : (pc : Int) + off = (tgt : Int)) (k : G ws lv tgt rest) : G ws lv pc (.int x :: rest) :=
  j_tsIn h tgt hd (by rw [ha]; omega) (by rw [ha]; omega) (by rw [ha]; exact ho) ht k
theorem j_lswK (h : Mh l D cy cc nL own R cells slots G) {dflt : Int} {ps : Array (Int × Int)} {len : Nat} {x : Int32} {off : Int} (i : Int) (tgt : Nat) (hd : decode cc pc = .ok (.lookupswitch dflt ps, len)) (hp : (ps.toList.zip (ps.toList.drop 1)).all (fun (a, next) => a.1 < next.1) = true) (hx : x.toInt = i) (ho : Op.lookupswitch.offset ps.toList dflt i = off) (ht : (pc : Int) + off = (tgt : Int)) (k : G ws lv tgt rest) : G ws lv pc (.int x :: rest) :=
  j_lsw h tgt hd hp (by rw [hx]; exact ho) ht k
theorem lsw_no {z d : Int} : ∀ {ps : List (Int × Int)}, (∀ q ∈ ps, z ≠ q.1) → Op.lookupswitch.offset ps d z = d
  | [], _ => by first | rfl | simp [Op.lookupswitch.offset]
  | q :: r, h => by
    obtain ⟨a, o⟩ := q
    rw [Op.lookupswitch.offset_cons, if_neg]
    · exact lsw_no (fun q hq => h q (List.mem_cons_of_mem _ hq))
    · intro e
      exact h (a, o) List.mem_cons_self e.symm
theorem j_lswD (h : Mh l D cy cc nL own R cells slots G) {dflt : Int} {ps : Array (Int × Int)} {len : Nat} {x : Int32} (tgt : Nat) (hd : decode cc pc = .ok (.lookupswitch dflt ps, len)) (hp : (ps.toList.zip (ps.toList.drop 1)).all (fun (a, next) => a.1 < next.1) = true) (hx : ∀ q ∈ ps.toList, x.toInt ≠ q.1) (ht : (pc : Int) + dflt = (tgt : Int)) (k : G ws lv tgt rest) : G ws lv pc (.int x :: rest) :=
  j_lsw h tgt hd hp (lsw_no hx) ht k
theorem j_if_eqB (h : Mh l D cy cc nL own R cells slots G) {P : Prop} {x : Int32} {off : Int} (tgt : Nat) (hd : decode cc pc = .ok (.ifCond .eq off, 3)) (ht : (pc : Int) + off = (tgt : Int)) (hp : x = 0 ↔ ¬ P) (kt : ¬ P → G ws lv tgt rest) (kf : P → G ws lv (pc + 3) rest) : G ws lv pc (.int x :: rest) :=
  j_if_eq h tgt hd ht hp kt (fun q => kf (Classical.not_not.mp q))
theorem j_if_neB (h : Mh l D cy cc nL own R cells slots G) {P : Prop} {x : Int32} {off : Int} (tgt : Nat) (hd : decode cc pc = .ok (.ifCond .ne off, 3)) (ht : (pc : Int) + off = (tgt : Int)) (hp : x = 0 ↔ ¬ P) (kt : P → G ws lv tgt rest) (kf : ¬ P → G ws lv (pc + 3) rest) : G ws lv pc (.int x :: rest) :=
  j_if_ne h tgt hd ht hp (fun q => kt (Classical.not_not.mp q)) kf
theorem j_cpN (h : Mh l D cy cc nL own R cells slots G) {index a0 a1 N : Nat} {f g : Nat → Nat} (hw : Cond.methodLink own index arraycopyName ∈ bw) (hw2 : Cond.native arraycopyName ∈ bw ∧ Cond.static arraycopyName ∈ bw ∧ Cond.initialized "java/lang/System" ∈ bw) (ws' : va_W) (q0 q1 : Nat) (he0 : ws[q0]? = some (a0, arC cy N f)) (he1 : ws[q1]? = some (a1, arC cy N g)) (hN : N < 2147483648) (hr : 1 ≤ R.frames ∧ (rest.map fun v => v.category).sum + (nativeFrameWords "java/lang/System" "arraycopy" 5 + 11) ≤ R.locals) (hws : ws.set q1 (a1, arC cy N f) = ws') (hd : decode cc pc = .ok (.invokestatic index, 3)) (k : G ws' lv (pc + 3) rest) : G ws lv pc (.int (nI N) :: .int (nI 0) :: .ref a1 :: .int (nI 0) :: .ref a0 :: rest) := by
  have hlt := (List.getElem?_eq_some_iff.mp he1).1
  refine j_copy h hw hw2 _ q0 q1 he0 he1 (Nat.le_refl N) (Nat.le_refl N) hN hr rfl hd ?_
  refine j_arr h ws' q1 (List.getElem?_set_self hlt) (g := fun j => nI (f j)) (fun i hi => ?_) (by rw [List.set_set]; exact hws) k
  rw [pk_cpy_in (Nat.zero_le i) (by omega)]
  simp
theorem lcm_lt (x y : Int64) : lg_cmp x y < 0 ↔ x.toInt < y.toInt := by
  unfold lg_cmp
  split
  · rename_i h; rw [gt_iff_lt, Int64.lt_iff_toInt_lt] at h; exact ⟨fun q => absurd q (by decide), fun q => by omega⟩
  · rename_i h; rw [gt_iff_lt, Int64.lt_iff_toInt_lt] at h
    split
    · rename_i h2; subst h2; exact ⟨fun q => absurd q (by decide), fun q => by omega⟩
    · rename_i h2; refine ⟨fun _ => ?_, fun _ => by decide⟩
      have : x.toInt ≠ y.toInt := fun q => h2 (Int64.toInt_inj.mp q)
      omega
theorem lcm_gt (x y : Int64) : 0 < lg_cmp x y ↔ y.toInt < x.toInt := by
  unfold lg_cmp
  split
  · rename_i h; rw [gt_iff_lt, Int64.lt_iff_toInt_lt] at h; exact ⟨fun _ => h, fun _ => by decide⟩
  · rename_i h; rw [gt_iff_lt, Int64.lt_iff_toInt_lt] at h
    split
    · exact ⟨fun q => absurd q (by decide), fun q => absurd q h⟩
    · exact ⟨fun q => absurd q (by decide), fun q => absurd q h⟩
end NUM
