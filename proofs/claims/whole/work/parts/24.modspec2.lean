/-! the reference: what its own calls answer -/
def evn (g : Nat → Nat) (i : Nat) : Nat := g (2 * i)
def odn (g : Nat → Nat) (i : Nat) : Nat := g (2 * i + 1)
theorem mxq {h : Nat → Nat} {x n t : Nat} (h1 : x ≤ 1) (h2 : x = 1 ↔ ∀ j, j < n → h j < t) (hn : 0 < n) : x = (if mx h n < t then 1 else 0) := by
  rcases Nat.eq_zero_or_pos t with ht | ht
  · rw [if_neg (by omega)]
    have : x ≠ 1 := fun q => absurd (h2.mp q 0 hn) (by omega)
    omega
  · by_cases q : mx h n < t
    · rw [if_pos q]; exact h2.mpr ((mx_lt ht).mp q)
    · rw [if_neg q]
      have : x ≠ 1 := fun z => q ((mx_lt ht).mpr (h2.mp z))
      omega
theorem all_up {P : Nat → Prop} {i : Nat} : (∀ j, j < i + 1 → P j) ↔ (∀ j, j < i → P j) ∧ P i := by
  constructor
  · exact fun q => ⟨fun j hj => q j (by omega), q i (by omega)⟩
  · intro q j hj
    rcases Nat.lt_or_ge j i with z | z
    · exact q.1 j z
    · rw [show j = i by omega]; exact q.2
theorem one_t {P Q : Prop} {x : Nat} (hx : x = 1 ↔ P) (h1 : ¬ x = 0) (hl : x ≤ 1) (q : Q) : 1 = 1 ↔ P ∧ Q := ⟨fun _ => ⟨hx.mp (by omega), q⟩, fun _ => rfl⟩
theorem one_f {P Q : Prop} {x : Nat} (hx : x = 1 ↔ P) (h : x = 0 ∨ ¬ Q) : 0 = 1 ↔ P ∧ Q := ⟨fun z => absurd z (by decide), fun z => by
  rcases h with h | h
  · rw [hx.mpr z.1] at h; exact absurd h (by decide)
  · exact absurd z.2 h⟩
def sandT (nb : Nat) (h w : Nat → Nat) (t a : Nat) (y : Int32) : Int32 := if y.toInt = 0 then nI (h a) else if y.toInt = 1 then nI (if mx h (a + 1) < t then 1 else 0) else if y.toInt = 2 then nI (bon w a nb) else -102
def boatT (h w d : Nat → Nat) (t a : Nat) (y : Int32) : Int32 := if y.toInt = 0 then nI (w a) else if y.toInt = 1 then nI (d a) else if y.toInt = 2 then nI (if leastT h w d a ≤ t then 1 else 0) else if y.toInt = 3 then nI (leastT h w d a) else -102
def askerT (sn : Nat) (k m fA fT : Nat → Nat) (s : S3) (a : Nat) (y : Int32) : Int32 := if y.toInt = 0 then nI (k a) else if y.toInt = 1 then nI (m a) else if y.toInt = 2 then nI (hear (k a) (m a) s).1 else if y.toInt = 3 then nI (hear (k a) (m a) s).2.1 else if y.toInt = 4 then nI (gLeft fA fT a sn (k a) s) else if y.toInt = 5 then nI (gGain fA fT a sn (k a) s) else -102
theorem sandA_T {ns nb : Nat} {h w : Nat → Nat} {t : Nat} {x y : Int32} (q : inR x ns) : sandT nb h w t (xn x) y = sandA ns nb h w t x y := (if_pos q).symm
theorem boatA_T {nb : Nat} {h w d : Nat → Nat} {t : Nat} {x y : Int32} (q : inR x nb) : boatT h w d t (xn x) y = boatA nb h w d t x y := (if_pos q).symm
theorem askerA_T {na sn : Nat} {k m fA fT : Nat → Nat} {s : S3} {x y : Int32} (q : inR x na) : askerT sn k m fA fT s (xn x) y = askerA na sn k m fA fT s x y := (if_pos q).symm
theorem inR_nI {i n : Nat} (h : i < n) (hn : n ≤ 8) : inR (nI i) n := by rw [inR, nti (by omega)]; omega
theorem sandA_N {ns nb : Nat} {h w : Nat → Nat} {t i : Nat} {y : Int32} (q : i < ns) (hn : ns ≤ 8) : sandT nb h w t i y = sandA ns nb h w t (nI i) y := by
  rw [← sandA_T (inR_nI q hn), xn_nI (by omega)]
theorem boatA_N {nb : Nat} {h w d : Nat → Nat} {t i : Nat} {y : Int32} (q : i < nb) (hn : nb ≤ 8) : boatT h w d t i y = boatA nb h w d t (nI i) y := by
  rw [← boatA_T (inR_nI q hn), xn_nI (by omega)]
theorem askerA_N {na sn : Nat} {k m fA fT : Nat → Nat} {s : S3} {i : Nat} {y : Int32} (q : i < na) (hn : na ≤ 8) : askerT sn k m fA fT s i y = askerA na sn k m fA fT s (nI i) y := by
  rw [← askerA_T (inR_nI q hn), xn_nI (by omega)]
theorem wcnt_in {P : Nat → Bool} {T : Nat → Nat} {t n : Nat} (h : T n = t) (hn : n < 10) : wcnt P T t n + ((wbits P 10 / 2 ^ n) &&& 1) = wcnt P T t (n + 1) := by
  rw [wbit hn]
  simp [wcnt, h]
theorem wcnt_no {P : Nat → Bool} {T : Nat → Nat} {t n : Nat} (h : ¬ T n = t) : wcnt P T t n = wcnt P T t (n + 1) := by
  simp [wcnt, h]
theorem good_1 {s e : S3} {n : Nat} (h0 : 0 < e.2.1) (hg : n + e.2.1 = s.2.1) (h1 : n = 0 → e.2.2 = s.2.2) (h2 : 0 < n → e.2.2 = 0) (h3 : e.1 = s.1 - 3 * (if s.2.2 = 0 then n else n - 1)) : n + 1 + (thk e).2.1 = s.2.1 ∧ (n + 1 = 0 → (thk e).2.2 = s.2.2) ∧ (0 < n + 1 → (thk e).2.2 = 0) ∧ (thk e).1 = s.1 - 3 * (if s.2.2 = 0 then n + 1 else n + 1 - 1) := by
  simp only [thk]
  refine ⟨by omega, by omega, fun _ => trivial, ?_⟩
  rcases Nat.eq_zero_or_pos n with z | z
  · have := h1 z
    subst z
    rw [h3, this]
    split <;> simp_all
  · rw [h2 z, if_pos rfl, h3]
    split <;> omega
theorem good_2 {s e : S3} {n : Nat} (hs : s.1 ≤ 20) (h0 : e.2.1 = 0) (h1 : e.1 < s.1) (h2 : n + (s.1 - e.1 + 8) / 9 = goodN s) : (hear 0 9 e).2.1 = 0 ∧ n + 1 + (s.1 - (hear 0 9 e).1 + 8) / 9 = goodN s := by
  simp only [hear, rise, offn, h0]
  refine ⟨by decide, ?_⟩
  rw [← h2]
  simp
  omega
theorem good_0 {s e : S3} {n : Nat} (hg : n + e.2.1 = s.2.1) (h0 : e.2.1 = 0) (h3 : e.1 = s.1 - 3 * (if s.2.2 = 0 then n else n - 1)) : n + (s.1 - e.1 + 8) / 9 = goodN s := by
  rw [h3]
  simp only [goodN, ← hg, h0, Nat.add_zero]
  split <;> omega
