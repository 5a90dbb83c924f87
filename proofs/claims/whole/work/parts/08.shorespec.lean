/-! the shore, as numbers -/
def mx (h : Nat → Nat) : Nat → Nat
  | 0 => 0
  | n + 1 => max (mx h n) (h n)
def leastT (h w d : Nat → Nat) (b : Nat) : Nat := max (mx h (w b + 1) + 1) (h (w b) + d b)
def nfl (h w d : Nat → Nat) (t : Nat) : Nat → Nat
  | 0 => 0
  | n + 1 => nfl h w d t n + (if leastT h w d n ≤ t then 1 else 0)
def nre (h : Nat → Nat) (t : Nat) : Nat → Nat
  | 0 => 0
  | n + 1 => nre h t n + (if mx h (n + 1) < t then 1 else 0)
def bon (w : Nat → Nat) (s : Nat) : Nat → Nat
  | 0 => 0
  | n + 1 => bon w s n ||| (if w n = s then 1 * 2 ^ n else 0)
abbrev agr (fA fT : Nat → Nat) (a t n : Nat) : Prop := ∀ i, i < n → (fA i = a → fT i = t)
/-- sands and boats as they may be -/
def okB (ns nb : Nat) (h w d : Nat → Nat) : Prop := ns ≤ 8 ∧ nb ≤ 3 ∧ (∀ i, i < ns → h i ≤ 9) ∧ (∀ b, b < nb → w b < ns) ∧ ∀ b, b < nb → d b ≤ 9
def okK (na : Nat) (k m : Nat → Nat) : Prop := na ≤ 5 ∧ (∀ i, i < na → k i ≤ 4) ∧ ∀ i, i < na → m i ≤ 9
theorem mx_le {h : Nat → Nat} {n c : Nat} (hh : ∀ i, i < n → h i ≤ c) : mx h n ≤ c := by
  induction n with
  | zero => exact Nat.zero_le c
  | succ n ih =>
    have h1 := ih (fun i hi => hh i (by omega))
    have h2 := hh n (by omega)
    simp only [mx]
    omega
theorem mx_lt {h : Nat → Nat} {n t : Nat} (ht : 0 < t) : mx h n < t ↔ ∀ i, i < n → h i < t := by
  induction n with
  | zero => exact ⟨fun _ i hi => absurd hi (Nat.not_lt_zero i), fun _ => ht⟩
  | succ n ih =>
    simp only [mx]
    constructor
    · intro q i hi
      rcases Nat.lt_or_ge i n with z | z
      · exact ih.mp (by omega) i z
      · rw [show i = n by omega]; omega
    · intro q
      have h1 := ih.mpr (fun i hi => q i (by omega))
      have h2 := q n (by omega)
      omega
theorem leastT_le {ns nb : Nat} {h w d : Nat → Nat} (ok : okB ns nb h w d) {b : Nat} (hb : b < nb) : leastT h w d b ≤ 18 ∧ 1 ≤ leastT h w d b := by
  obtain ⟨e1, e2, e3, e4, e5⟩ := ok
  have h1 := e4 b hb
  have h2 := e5 b hb
  have h3 := e3 _ h1
  have h4 : mx h (w b + 1) ≤ 9 := mx_le (fun i hi => e3 i (by omega))
  simp only [leastT]
  omega
theorem nfl_le {h w d : Nat → Nat} {t n : Nat} : nfl h w d t n ≤ n := by
  induction n with
  | zero => exact Nat.le_refl 0
  | succ n ih => simp only [nfl]; split <;> omega
theorem nre_le {h : Nat → Nat} {t n : Nat} : nre h t n ≤ n := by
  induction n with
  | zero => exact Nat.le_refl 0
  | succ n ih => simp only [nre]; split <;> omega
theorem bon_lt {w : Nat → Nat} {s n : Nat} : bon w s n < 2 ^ n := by
  induction n with
  | zero => exact Nat.one_pos
  | succ n ih =>
    simp only [bon]
    refine Nat.or_lt_two_pow ?_ ?_
    · rw [Nat.pow_succ]; omega
    · rw [Nat.pow_succ]
      have := Nat.two_pow_pos n
      split <;> omega
