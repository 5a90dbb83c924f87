/-! the reference: rows for its numbers -/
theorem tl64 (x : Int32) : x.toInt64.toInt = x.toInt := by first | exact Int32.toInt_toInt64 x | simp
theorem tlN {n : Nat} (h : n < 2147483648) : (nI n).toInt64.toInt = (n : Int) := by rw [tl64, nti h]
theorem inE {x : Int32} {lo hi : Int64} {a b : Int} (h1 : lo.toInt = a) (h2 : hi.toInt = b) : nI (if lo.toInt ≤ x.toInt64.toInt ∧ x.toInt64.toInt ≤ hi.toInt then 1 else 0) = nI (if a ≤ x.toInt ∧ x.toInt ≤ b then 1 else 0) := by
  rw [h1, h2, tl64]
theorem inN {c a b : Nat} {lo hi : Int64} (hc : c < 2147483648) (h1 : lo.toInt = (a : Int)) (h2 : hi.toInt = (b : Int)) : nI (if lo.toInt ≤ (nI c).toInt64.toInt ∧ (nI c).toInt64.toInt ≤ hi.toInt then 1 else 0) = nI (if a ≤ c ∧ c ≤ b then 1 else 0) := by
  rw [h1, h2, tlN hc]
  by_cases h : a ≤ c ∧ c ≤ b
  · rw [if_pos h, if_pos (by omega)]
  · rw [if_neg h, if_neg (by omega)]
theorem inS {x : Int32} {n : Nat} (hn : n ≤ 8) : nI (if (0 : Int64).toInt ≤ x.toInt64.toInt ∧ x.toInt64.toInt ≤ (nI n - nI 1).toInt64.toInt then 1 else 0) = nI (if inR x n then 1 else 0) := by
  rw [tl64, tl64, pk_sub_toInt (by omega) (by decide), show (0 : Int64).toInt = 0 from by decide]
  by_cases h : inR x n
  · rw [if_pos h, if_pos (by omega)]
  · rw [if_neg h, if_neg (by omega)]
/-- the reference's rows hold the shore's -/
def ag5 (ns nb na : Nat) (gh gw gd gk gm h w d k m : Nat → Nat) : Prop := (∀ i, i < ns → gh i = h i) ∧ (∀ i, i < nb → gw i = w i) ∧ (∀ i, i < nb → gd i = d i) ∧ (∀ i, i < na → gk i = k i) ∧ ∀ i, i < na → gm i = m i
def agS (sn : Nat) (gs fA fT : Nat → Nat) : Prop := ∀ i, i < sn → gs (2 * i) = fA i ∧ gs (2 * i + 1) = fT i
/-- reading, as the reference goes: end, next -/
def gd (c a : Nat) : Nat × Nat → Option (Nat × Nat)
  | (en, nx) =>
    if en = 0 then (if c = 59 ∧ 2 < a then some (a, nx) else if (48 ≤ c ∧ c ≤ 57) ∧ a < 8 then some (en, nx) else none)
    else if nx = 0 then (if (a - en - 1) % 3 = 0 then (if 48 ≤ c ∧ c ≤ 48 + en - 1 then some (en, nx) else none) else if (a - en - 1) % 3 = 1 then (if 48 ≤ c ∧ c ≤ 57 then some (en, nx) else none) else (if c = 59 then some (en, a) else if c = 44 ∧ a - en - 1 < 8 then some (en, nx) else none))
    else (if (a - nx - 1) % 3 = 0 then (if kd c ≤ 4 then some (en, nx) else none) else if (a - nx - 1) % 3 = 1 then (if 48 ≤ c ∧ c ≤ 57 then some (en, nx) else none) else (if c = 44 ∧ a - nx - 1 < 14 then some (en, nx) else none))
def gdI (pg : Nat → Nat) : Nat → Bool × Nat × (Nat × Nat)
  | 0 => (true, 0, (0, 0))
  | i + 1 => if (gdI pg i).1 = true then (match gd (pg i) i (gdI pg i).2.2 with | some R' => (true, i + 1, R') | none => (false, i, (gdI pg i).2.2)) else gdI pg i
theorem gdI_yes {pg : Nat → Nat} {R1 R2 : Nat × Nat} {i : Nat} (h : gdI pg i = (true, i, R1)) (h2 : gd (pg i) i R1 = some R2) : gdI pg (i + 1) = (true, i + 1, R2) := by
  simp only [gdI, h, h2, if_true]
theorem gdI_no {pg : Nat → Nat} {R1 : Nat × Nat} {i : Nat} (h : gdI pg i = (true, i, R1)) (h2 : gd (pg i) i R1 = none) : gdI pg (i + 1) = (false, i, R1) := by
  simp only [gdI, h, h2, if_true]
theorem gdI_stop {pg : Nat → Nat} {i : Nat} {x : Nat × (Nat × Nat)} (h : gdI pg i = (false, x)) : ∀ j, i ≤ j → gdI pg j = (false, x)
  | 0, hj => by rw [show i = 0 by omega] at h; exact h
  | j + 1, hj => by
    rcases Nat.lt_or_ge i (j + 1) with q | q
    · have e := gdI_stop h j (by omega)
      simp [gdI, e]
    · rw [← show i = j + 1 by omega]; exact h
theorem gdI_le (pg : Nat → Nat) : ∀ n, (gdI pg n).2.1 ≤ n
  | 0 => Nat.le_refl 0
  | n + 1 => by
    have ih := gdI_le pg n
    simp only [gdI]
    split
    · split
      · exact Nat.le_refl _
      · exact Nat.le_succ n
    · omega
/-- where end and next may be -/
def gdB (n : Nat) : Nat × Nat → Prop
  | (en, nx) => (en = 0 ∧ nx = 0) ∨ (3 ≤ en ∧ en ≤ 8 ∧ en < n ∧ (nx = 0 ∨ (en < nx ∧ nx < n)))
theorem gdB_gd {c a : Nat} {R R' : Nat × Nat} (hR : gdB a R) (ha : R.1 = 0 → a ≤ 8) (h : gd c a R = some R') : gdB (a + 1) R' := by
  obtain ⟨en, nx⟩ := R
  simp only [gd] at h
  simp only [gdB] at hR
  simp only at ha
  split at h
  · split at h
    · cases h; simp only [gdB]; omega
    · split at h
      · cases h; simp only [gdB]; omega
      · cases h
  · split at h
    · split at h
      · split at h
        · cases h; simp only [gdB]; omega
        · cases h
      · split at h
        · split at h
          · cases h; simp only [gdB]; omega
          · cases h
        · split at h
          · cases h; simp only [gdB]; omega
          · split at h
            · cases h; simp only [gdB]; omega
            · cases h
    · split at h
      · split at h
        · cases h; simp only [gdB]; omega
        · cases h
      · split at h
        · split at h
          · cases h; simp only [gdB]; omega
          · cases h
        · split at h
          · cases h; simp only [gdB]; omega
          · cases h
theorem gdI_B {pg : Nat → Nat} : ∀ n, (gdI pg n).1 = true → gdB n (gdI pg n).2.2 ∧ (gdI pg n).2.1 = n ∧ ((gdI pg n).2.2.1 = 0 → n ≤ 8)
  | 0, _ => ⟨Or.inl ⟨rfl, rfl⟩, rfl, fun _ => by omega⟩
  | n + 1, h => by
    by_cases hb : (gdI pg n).1 = true
    · obtain ⟨i1, i2, i3⟩ := gdI_B n hb
      obtain ⟨⟨b, c, R⟩, hg⟩ : ∃ x, gdI pg n = x := ⟨_, rfl⟩
      rw [hg] at hb i1 i2 i3
      simp only at hb i1 i2 i3
      subst hb; subst i2
      cases e : gd (pg c) c R with
      | none => rw [gdI_no hg e] at h; exact Bool.noConfusion h
      | some R' =>
        rw [gdI_yes hg e]
        refine ⟨gdB_gd i1 i3 e, rfl, fun h0 => ?_⟩
        obtain ⟨en, nx⟩ := R
        simp only [gd] at e
        simp only [gdB] at i1
        simp only at h0
        split at e
        · split at e
          · cases e; simp only at h0; omega
          · split at e
            · omega
            · cases e
        · split at e
          · split at e
            · split at e
              · cases e; simp only at h0; omega
              · cases e
            · split at e
              · split at e
                · cases e; simp only at h0; omega
                · cases e
              · split at e
                · cases e; simp only at h0; omega
                · split at e
                  · cases e; simp only at h0; omega
                  · cases e
          · split at e
            · split at e
              · cases e; simp only at h0; omega
              · cases e
            · split at e
              · split at e
                · cases e; simp only at h0; omega
                · cases e
              · split at e
                · cases e; simp only at h0; omega
                · cases e
    · have e : gdI pg (n + 1) = gdI pg n := by
        simp only [gdI]; rw [if_neg hb]
      rw [e] at h; exact absurd h hb
theorem wbit {P : Nat → Bool} {n i : Nat} (h : i < n) : (wbits P n / 2 ^ i) &&& 1 = (if P i = true then 1 else 0) := by
  have hb : ∀ n i, (wbits P n).testBit i = (decide (i < n) && P i) := by
    intro n
    induction n with
    | zero => intro i; simp [wbits]
    | succ n ih =>
      intro i
      simp only [wbits]
      rw [Nat.testBit_or, ih]
      by_cases hp : P n = true
      · rw [if_pos hp, Nat.one_mul, Nat.testBit_two_pow]
        by_cases e : n = i
        · subst e; simp [hp]
        · simp only [e, decide_false, Bool.or_false]
          by_cases q : i < n
          · simp [q, show i < n + 1 by omega]
          · simp [q, show ¬ i < n + 1 by omega]
      · rw [if_neg hp, Nat.zero_testBit, Bool.or_false]
        by_cases e : i = n
        · subst e; simp [Bool.eq_false_iff.mpr hp]
        · by_cases q : i < n
          · simp [q, show i < n + 1 by omega]
          · simp [q, show ¬ i < n + 1 by omega]
  have h1 := hb n i
  simp only [h, decide_true, Bool.true_and] at h1
  rw [Nat.testBit_eq_decide_div_mod_eq] at h1
  rw [Nat.and_one_is_mod]
  by_cases hp : P i = true
  · rw [hp] at h1; rw [if_pos hp]; exact of_decide_eq_true h1
  · rw [if_neg hp]
    rw [Bool.eq_false_iff.mpr hp] at h1
    have := of_decide_eq_false h1
    omega
theorem left_worst {fA fT : Nat → Nat} {a sn ka : Nat} {s : S3} (oks : okS s) : gLeft fA fT a sn ka s = 0 ↔ gWorst fA fT a sn ka s = 0 := by
  have key : ∀ n, n ≤ 10 → (wbits (mP fA fT a sn ka s) n = 0 ↔ ∀ i, i < n → mP fA fT a sn ka s i = false) := by
    intro n
    induction n with
    | zero => intro _; exact ⟨fun _ i hi => absurd hi (Nat.not_lt_zero i), fun _ => rfl⟩
    | succ n ih =>
      intro hn
      simp only [wbits]
      constructor
      · intro h i hi
        have h0 := Nat.or_eq_zero_iff.mp h
        rcases Nat.lt_or_ge i n with q | q
        · exact (ih (by omega)).mp h0.1 i q
        · rw [show i = n by omega]
          by_cases hp : mP fA fT a sn ka s n = true
          · rw [if_pos hp] at h0
            have := Nat.two_pow_pos n; omega
          · exact Bool.eq_false_iff.mpr hp
      · intro h
        rw [(ih (by omega)).mpr (fun i hi => h i (by omega)), h n (by omega)]
        simp
  have c0 : ∀ n t, (∀ i, i < n → mP fA fT a sn ka s i = false) → gC fA fT a sn ka s n t = 0 := by
    intro n t h
    show wcnt _ _ _ _ = 0
    induction n with
    | zero => rfl
    | succ n ih =>
      simp only [wcnt]
      rw [ih (fun i hi => h i (by omega)), h n (by omega)]
      rfl
  have c1 : ∀ n i, i < n → mP fA fT a sn ka s i = true → 0 < gC fA fT a sn ka s n (mT ka s i) := by
    intro n i hi hp
    show 0 < wcnt _ _ _ _
    induction n with
    | zero => exact absurd hi (Nat.not_lt_zero i)
    | succ n ih =>
      simp only [wcnt]
      rcases Nat.lt_or_ge i n with q | q
      · have := ih q; omega
      · rw [show i = n by omega] at hp ⊢
        rw [if_pos ⟨hp, rfl⟩]; omega
  rw [show gLeft fA fT a sn ka s = wbits (mP fA fT a sn ka s) 10 from rfl, key 10 (Nat.le_refl _)]
  constructor
  · intro h
    show mx (gC fA fT a sn ka s 10) 21 = 0
    have := mx_le (h := gC fA fT a sn ka s 10) (n := 21) (c := 0) (fun t _ => by rw [c0 10 t h]; exact Nat.le_refl 0)
    omega
  · intro h i hi
    by_cases hp : mP fA fT a sn ka s i = true
    · have h1 := c1 10 i hi hp
      have hT : mT ka s i < 21 := by have := (ok_hear (k := ka) (m := i) oks).1; simp only [mT]; omega
      have hm : ∀ n t, t < n → gC fA fT a sn ka s 10 t ≤ mx (gC fA fT a sn ka s 10) n := by
        intro n t ht
        induction n with
        | zero => exact absurd ht (Nat.not_lt_zero t)
        | succ n ih =>
          simp only [mx]
          rcases Nat.lt_or_ge t n with q | q
          · have := ih q; omega
          · rw [show t = n by omega]; omega
      have h2 := hm 21 _ hT
      rw [show mx (gC fA fT a sn ka s 10) 21 = 0 from h] at h2
      omega
    · exact Bool.eq_false_iff.mpr hp
