/-! reading: the class's way and the reference's beside it -/
def dg1 (pg f : Nat → Nat) (n : Nat) : Prop := ∀ j, j < n → 48 ≤ pg j ∧ pg j - 48 = f j
def dg3 (pg f : Nat → Nat) (o n : Nat) : Prop := ∀ j, j < n → 48 ≤ pg (o + 3 * j) ∧ pg (o + 3 * j) - 48 = f j
def kg3 (pg f : Nat → Nat) (o n : Nat) : Prop := ∀ j, j < n → kd (pg (o + 3 * j)) = f j
theorem dg1_up {pg f : Nat → Nat} {n c : Nat} (h : dg1 pg f n) (hc : pg n = c) (h48 : 48 ≤ c) : dg1 pg (va_up f n (c - 48)) (n + 1) := by
  intro j hj
  by_cases e : j = n
  · rw [e, up_eq, hc]; exact ⟨h48, rfl⟩
  · rw [up_ne e]; exact h j (by omega)
theorem dg3_up {pg f : Nat → Nat} {o n c : Nat} (h : dg3 pg f o n) (hc : pg (o + 3 * n) = c) (h48 : 48 ≤ c) : dg3 pg (va_up f n (c - 48)) o (n + 1) := by
  intro j hj
  by_cases e : j = n
  · rw [e, up_eq, hc]; exact ⟨h48, rfl⟩
  · rw [up_ne e]; exact h j (by omega)
theorem kg3_up {pg f : Nat → Nat} {o n c : Nat} (h : kg3 pg f o n) (hc : pg (o + 3 * n) = c) : kg3 pg (va_up f n (kd c)) o (n + 1) := by
  intro j hj
  by_cases e : j = n
  · rw [e, up_eq, hc]
  · rw [up_ne e]; exact h j (by omega)
theorem dg3_n {pg f : Nat → Nat} {o n n' : Nat} (h : dg3 pg f o n) (e : n = n') : dg3 pg f o n' := e ▸ h
theorem kg3_n {pg f : Nat → Nat} {o n n' : Nat} (h : kg3 pg f o n) (e : n = n') : kg3 pg f o n' := e ▸ h
def relA (pg : Nat → Nat) (i pl ns nb na : Nat) (h : Nat → Nat) (en ne : Nat) : Prop := en = 0 ∧ ne = 0 ∧ pl = 0 ∧ ns = i ∧ i ≤ 8 ∧ nb = 0 ∧ na = 0 ∧ dg1 pg h i
def relB (pg : Nat → Nat) (i pl ns nb na : Nat) (h w d : Nat → Nat) (en ne : Nat) : Prop := 3 ≤ en ∧ en ≤ 8 ∧ ne = 0 ∧ en < i ∧ i ≤ en + 9 ∧ ns = en ∧ na = 0 ∧ pl = 1 + (i - en - 1) % 3 ∧ nb = (i - en) / 3 ∧ dg1 pg h en ∧ dg3 pg w (en + 1) ((i - en + 1) / 3) ∧ dg3 pg d (en + 2) ((i - en) / 3)
def relC (pg : Nat → Nat) (i pl ns nb na : Nat) (h w d k m : Nat → Nat) (en ne : Nat) : Prop := 3 ≤ en ∧ en ≤ 8 ∧ en < ne ∧ ne ≤ en + 9 ∧ (ne - en) % 3 = 0 ∧ ne < i ∧ i ≤ ne + 15 ∧ ns = en ∧ nb = (ne - en) / 3 ∧ pl = 4 + (i - ne - 1) % 3 ∧ na = (i - ne) / 3 ∧ dg1 pg h en ∧ dg3 pg w (en + 1) ((ne - en) / 3) ∧ dg3 pg d (en + 2) ((ne - en) / 3) ∧ kg3 pg k (ne + 1) ((i - ne + 1) / 3) ∧ dg3 pg m (ne + 2) ((i - ne) / 3)
def rel (pg : Nat → Nat) (i : Nat) : RT → Nat × Nat → Prop
  | (pl, ns, nb, na, h, w, d, k, m), (en, ne) => relA pg i pl ns nb na h en ne ∨ relB pg i pl ns nb na h w d en ne ∨ relC pg i pl ns nb na h w d k m en ne
def stepQ (pg : Nat → Nat) (i : Nat) (R : RT) (g : Nat × Nat) : Prop := (rd (pg i) R = none ∧ gd (pg i) i g = none) ∨ ∃ R' g', rd (pg i) R = some R' ∧ gd (pg i) i g = some g' ∧ rel pg (i + 1) R' g'
theorem stepA {pg : Nat → Nat} {i pl ns nb na : Nat} {h w d k m : Nat → Nat} {en ne : Nat} (q : relA pg i pl ns nb na h en ne) : stepQ pg i (pl, ns, nb, na, h, w, d, k, m) (en, ne) := by
  obtain ⟨q1, q2, q3, q4, q5, q6, q7, q8⟩ := q
  obtain ⟨c, hc⟩ : ∃ c, pg i = c := ⟨_, rfl⟩
  simp only [stepQ]
  rw [rd_0 q3, hc]
  simp only [gd]
  rw [if_pos q1]
  by_cases e : c = 59
  · by_cases e2 : 3 ≤ ns
    · refine Or.inr ⟨_, _, by rw [if_pos e, if_pos e2], by rw [if_pos ⟨e, by omega⟩], Or.inr (Or.inl ?_)⟩
      show relB pg (i + 1) 1 ns nb na h w d i ne
      exact ⟨by omega, by omega, q2, by omega, by omega, q4, q7, by omega, by omega, q8, fun j hj => absurd hj (by omega), fun j hj => absurd hj (by omega)⟩
    · refine Or.inl ⟨by rw [if_pos e, if_neg e2], by rw [if_neg (by omega), if_neg (by omega)]⟩
  · by_cases e2 : 48 ≤ c ∧ c ≤ 57 ∧ ns < 8
    · refine Or.inr ⟨_, _, by rw [if_neg e, if_pos e2], by rw [if_neg (by omega), if_pos (by omega)], Or.inl ?_⟩
      show relA pg (i + 1) 0 (ns + 1) nb na (va_up h ns (c - 48)) en ne
      refine ⟨q1, q2, rfl, by omega, by omega, q6, q7, ?_⟩
      rw [q4]
      exact dg1_up q8 hc e2.1
    · refine Or.inl ⟨by rw [if_neg e, if_neg e2], by rw [if_neg (by omega), if_neg (by omega)]⟩
theorem stepB {pg : Nat → Nat} {i pl ns nb na : Nat} {h w d k m : Nat → Nat} {en ne : Nat} (q : relB pg i pl ns nb na h w d en ne) : stepQ pg i (pl, ns, nb, na, h, w, d, k, m) (en, ne) := by
  obtain ⟨q1, q2, q3, q4, q5, q6, q7, q8, q9, q10, q11, q12⟩ := q
  obtain ⟨c, hc⟩ : ∃ c, pg i = c := ⟨_, rfl⟩
  simp only [stepQ]
  simp only [gd]
  rw [hc, if_neg (by omega), if_pos q3]
  rcases (show pl = 1 ∨ pl = 2 ∨ pl = 3 by omega) with p | p | p
  · rw [rd_1 p, if_pos (show (i - en - 1) % 3 = 0 by omega)]
    by_cases e : 48 ≤ c ∧ c - 48 < ns ∧ nb < 3
    · refine Or.inr ⟨_, _, by rw [if_pos e], by rw [if_pos (by omega)], Or.inr (Or.inl ?_)⟩
      show relB pg (i + 1) 2 ns nb na h (va_up w nb (c - 48)) d en ne
      refine ⟨q1, q2, q3, by omega, by omega, q6, q7, by omega, by omega, q10, ?_, dg3_n q12 (by omega)⟩
      exact dg3_n (dg3_up (dg3_n q11 (show _ = nb by omega)) (by rw [← hc]; congr 1; omega) e.1) (by omega)
    · exact Or.inl ⟨by rw [if_neg e], by rw [if_neg (by omega)]⟩
  · rw [rd_2 p, if_neg (show ¬ (i - en - 1) % 3 = 0 by omega), if_pos (show (i - en - 1) % 3 = 1 by omega)]
    by_cases e : 48 ≤ c ∧ c ≤ 57 ∧ nb < 3
    · refine Or.inr ⟨_, _, by rw [if_pos e], by rw [if_pos (by omega)], Or.inr (Or.inl ?_)⟩
      show relB pg (i + 1) 3 ns (nb + 1) na h w (va_up d nb (c - 48)) en ne
      refine ⟨q1, q2, q3, by omega, by omega, q6, q7, by omega, by omega, q10, dg3_n q11 (by omega), ?_⟩
      exact dg3_n (dg3_up (dg3_n q12 (show _ = nb by omega)) (by rw [← hc]; congr 1; omega) e.1) (by omega)
    · exact Or.inl ⟨by rw [if_neg e], by rw [if_neg (by omega)]⟩
  · rw [rd_3 p, if_neg (show ¬ (i - en - 1) % 3 = 0 by omega), if_neg (show ¬ (i - en - 1) % 3 = 1 by omega)]
    by_cases e : c = 59
    · refine Or.inr ⟨_, _, by rw [if_pos e], by rw [if_pos e], Or.inr (Or.inr ?_)⟩
      show relC pg (i + 1) 4 ns nb na h w d k m en i
      exact ⟨q1, q2, q4, q5, by omega, by omega, by omega, q6, q9, by omega, by omega, q10, dg3_n q11 (by omega), q12, fun j hj => absurd hj (by omega), fun j hj => absurd hj (by omega)⟩
    · by_cases e2 : c = 44 ∧ nb < 3
      · refine Or.inr ⟨_, _, by rw [if_neg e, if_pos e2], by rw [if_neg e, if_pos (by omega)], Or.inr (Or.inl ?_)⟩
        show relB pg (i + 1) 1 ns nb na h w d en ne
        exact ⟨q1, q2, q3, by omega, by omega, q6, q7, by omega, by omega, q10, dg3_n q11 (by omega), dg3_n q12 (by omega)⟩
      · exact Or.inl ⟨by rw [if_neg e, if_neg e2], by rw [if_neg e, if_neg (by omega)]⟩
theorem stepC {pg : Nat → Nat} {i pl ns nb na : Nat} {h w d k m : Nat → Nat} {en ne : Nat} (q : relC pg i pl ns nb na h w d k m en ne) : stepQ pg i (pl, ns, nb, na, h, w, d, k, m) (en, ne) := by
  obtain ⟨q1, q2, q3, q4, q5, q6, q7, q8, q9, q10, q11, q12, q13, q14, q15, q16⟩ := q
  obtain ⟨c, hc⟩ : ∃ c, pg i = c := ⟨_, rfl⟩
  simp only [stepQ]
  simp only [gd]
  rw [hc, if_neg (by omega), if_neg (show ¬ ne = 0 by omega)]
  rcases (show pl = 4 ∨ pl = 5 ∨ 5 < pl by omega) with p | p | p
  · rw [rd_4 p, if_pos (show (i - ne - 1) % 3 = 0 by omega)]
    by_cases e : kd c ≤ 4 ∧ na < 5
    · refine Or.inr ⟨_, _, by rw [if_pos e], by rw [if_pos e.1], Or.inr (Or.inr ?_)⟩
      show relC pg (i + 1) 5 ns nb na h w d (va_up k na (kd c)) m en ne
      refine ⟨q1, q2, q3, q4, q5, by omega, by omega, q8, q9, by omega, by omega, q12, q13, q14, ?_, dg3_n q16 (by omega)⟩
      exact kg3_n (kg3_up (kg3_n q15 (show _ = na by omega)) (by rw [← hc]; congr 1; omega)) (by omega)
    · exact Or.inl ⟨by rw [if_neg e], by rw [if_neg (by omega)]⟩
  · rw [rd_5 p, if_neg (show ¬ (i - ne - 1) % 3 = 0 by omega), if_pos (show (i - ne - 1) % 3 = 1 by omega)]
    by_cases e : 48 ≤ c ∧ c ≤ 57 ∧ na < 5
    · refine Or.inr ⟨_, _, by rw [if_pos e], by rw [if_pos (by omega)], Or.inr (Or.inr ?_)⟩
      show relC pg (i + 1) 6 ns nb (na + 1) h w d k (va_up m na (c - 48)) en ne
      refine ⟨q1, q2, q3, q4, q5, by omega, by omega, q8, q9, by omega, by omega, q12, q13, q14, kg3_n q15 (by omega), ?_⟩
      exact dg3_n (dg3_up (dg3_n q16 (show _ = na by omega)) (by rw [← hc]; congr 1; omega) e.1) (by omega)
    · exact Or.inl ⟨by rw [if_neg e], by rw [if_neg (by omega)]⟩
  · rw [rd_6 p, if_neg (show ¬ (i - ne - 1) % 3 = 0 by omega), if_neg (show ¬ (i - ne - 1) % 3 = 1 by omega)]
    by_cases e : c = 44 ∧ na < 5
    · refine Or.inr ⟨_, _, by rw [if_pos e], by rw [if_pos (by omega)], Or.inr (Or.inr ?_)⟩
      show relC pg (i + 1) 4 ns nb na h w d k m en ne
      exact ⟨q1, q2, q3, q4, q5, by omega, by omega, q8, q9, by omega, by omega, q12, q13, q14, kg3_n q15 (by omega), dg3_n q16 (by omega)⟩
    · exact Or.inl ⟨by rw [if_neg e], by rw [if_neg (by omega)]⟩
theorem rel_step {pg : Nat → Nat} {i : Nat} {R : RT} {g : Nat × Nat} (q : rel pg i R g) : stepQ pg i R g := by
  obtain ⟨pl, ns, nb, na, h, w, d, k, m⟩ := R
  obtain ⟨en, ne⟩ := g
  rcases q with q | q | q
  · exact stepA q
  · exact stepB q
  · exact stepC q
theorem relI {pg yh yw yd yk ym : Nat → Nat} : ∀ n, ∃ b j R g, rdI pg (0, 0, 0, 0, yh, yw, yd, yk, ym) n = (b, j, R) ∧ gdI pg n = (b, j, g) ∧ rel pg j R g ∧ (b = true → j = n)
  | 0 => ⟨true, 0, (0, 0, 0, 0, yh, yw, yd, yk, ym), (0, 0), rfl, rfl, Or.inl ⟨rfl, rfl, rfl, rfl, by omega, rfl, rfl, fun j hj => absurd hj (Nat.not_lt_zero j)⟩, fun _ => rfl⟩
  | n + 1 => by
    obtain ⟨b, j, R, g, e1, e2, e3, e4⟩ := relI (pg := pg) (yh := yh) (yw := yw) (yd := yd) (yk := yk) (ym := ym) n
    cases b with
    | false =>
      exact ⟨false, j, R, g, rdI_stop e1 (n + 1) (by omega), gdI_stop e2 (n + 1) (by omega), e3, fun z => Bool.noConfusion z⟩
    | true =>
      have ej := e4 rfl
      subst ej
      rcases rel_step e3 with ⟨z1, z2⟩ | ⟨R', g', z1, z2, z3⟩
      · exact ⟨false, j, R, g, rdI_no e1 z1, gdI_no e2 z2, e3, fun z => Bool.noConfusion z⟩
      · exact ⟨true, j + 1, R', g', rdI_yes e1 z1, gdI_yes e2 z2, z3, fun _ => rfl⟩
theorem shore_ok {pg : Nat → Nat} {n : Nat} {R : RT} {g : Nat × Nat} (q : rel pg n R g) : (R.1 = 6 ∧ 2 ≤ R.2.2.2.1) ↔ (g.2 ≠ 0 ∧ g.2 + 6 ≤ n ∧ (n - g.2) % 3 = 0) := by
  obtain ⟨pl, ns, nb, na, h, w, d, k, m⟩ := R
  obtain ⟨en, ne⟩ := g
  simp only
  rcases q with ⟨q1, q2, q3, q4, q5, q6, q7, q8⟩ | ⟨q1, q2, q3, q4, q5, q6, q7, q8, q9, q10, q11, q12⟩ | ⟨q1, q2, q3, q4, q5, q6, q7, q8, q9, q10, q11, q12, q13, q14, q15, q16⟩
  · constructor <;> intro z <;> omega
  · constructor <;> intro z <;> omega
  · constructor <;> intro z <;> omega
theorem shore_is {pg : Nat → Nat} {n : Nat} {R : RT} {g : Nat × Nat} (q : rel pg n R g) (h0 : g.2 ≠ 0) (h6 : g.2 + 6 ≤ n) (h3 : (n - g.2) % 3 = 0) : R.2.1 = g.1 ∧ R.2.2.1 = (g.2 - g.1) / 3 ∧ R.2.2.2.1 = (n - g.2) / 3 ∧ g.1 ≤ 8 ∧ g.2 ≤ g.1 + 9 ∧ n ≤ g.2 + 15 ∧ g.1 < g.2 ∧ dg1 pg R.2.2.2.2.1 g.1 ∧ dg3 pg R.2.2.2.2.2.1 (g.1 + 1) ((g.2 - g.1) / 3) ∧ dg3 pg R.2.2.2.2.2.2.1 (g.1 + 2) ((g.2 - g.1) / 3) ∧ kg3 pg R.2.2.2.2.2.2.2.1 (g.2 + 1) ((n - g.2) / 3) ∧ dg3 pg R.2.2.2.2.2.2.2.2 (g.2 + 2) ((n - g.2) / 3) := by
  obtain ⟨pl, ns, nb, na, h, w, d, k, m⟩ := R
  obtain ⟨en, ne⟩ := g
  simp only at h0 h6 h3 ⊢
  rcases q with ⟨q1, q2, q3, q4, q5, q6, q7, q8⟩ | ⟨q1, q2, q3, q4, q5, q6, q7, q8, q9, q10, q11, q12⟩ | ⟨q1, q2, q3, q4, q5, q6, q7, q8, q9, q10, q11, q12, q13, q14, q15, q16⟩
  · exact absurd q2 h0
  · exact absurd q3 h0
  · exact ⟨q8, q9, q11, q2, q4, q7, q3, q12, q13, q14, kg3_n q15 (by omega), q16⟩
theorem kdE (c : Nat) : nI (kd c) = nI 4294967295 ↔ kd c = 4294967295 := by
  rcases kd_le c with h | h
  · rw [eq_comm, kS_no (by omega)]
    exact ⟨fun q => q.elim, fun q => by omega⟩
  · rw [h]
    exact ⟨fun _ => rfl, fun _ => rfl⟩
theorem up_ag {f F : Nat → Nat} {i v : Nat} (h : ∀ j, j < i → f j = F j) (hv : v = F i) : ∀ j, j < i + 1 → va_up f i v j = F j := by
  intro j hj
  by_cases e : j = i
  · rw [e, up_eq]; exact hv
  · rw [up_ne e]; exact h j (by omega)
theorem gsome {α : Type} {o : Option α} {R : α} {P : Prop} [Decidable P] (hg : o = if P then some R else none) (hp : P) : 1 = (if o.isSome = true then 1 else 0) := by rw [hg, if_pos hp]; rfl
theorem gnone {α : Type} {o : Option α} {R : α} {P : Prop} [Decidable P] (hg : o = if P then some R else none) (hp : ¬ P) : 0 = (if o.isSome = true then 1 else 0) := by rw [hg, if_neg hp]; rfl
theorem gsm {α : Type} {o : Option α} {R : α} {P : Prop} [Decidable P] (hg : o = if P then some R else none) : (if P then 1 else 0) = (if o.isSome = true then 1 else 0) := by
  by_cases y : P
  · rw [if_pos y]; exact gsome hg y
  · rw [if_neg y]; exact gnone hg y
theorem ggd {α : Type} {o : Option α} {R : α} {P : Prop} [Decidable P] (hg : o = if P then some R else none) : R = o.getD R := by
  by_cases y : P
  · rw [hg, if_pos y]; rfl
  · rw [hg, if_neg y]; rfl
theorem rel_b {pg : Nat → Nat} {n : Nat} {R : RT} {g : Nat × Nat} (q : rel pg n R g) : g.1 ≤ n ∧ g.2 ≤ n := by
  obtain ⟨pl, ns, nb, na, h, w, d, k, m⟩ := R
  obtain ⟨en, ne⟩ := g
  simp only
  rcases q with ⟨q1, q2, q3, q4, q5, q6, q7, q8⟩ | ⟨q1, q2, q3, q4, q5, q6, q7, q8, q9, q10, q11, q12⟩ | ⟨q1, q2, q3, q4, q5, q6, q7, q8, q9, q10, q11, q12, q13, q14, q15, q16⟩ <;> omega
