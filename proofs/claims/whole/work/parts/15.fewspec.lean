/-! few askings: a way is a number, its figures (base 8, from 1 on) the moves; the order of such numbers is: shorter first, then by numbers -/
def stp (k m : Nat → Nat) (na mv : Nat) (s : S3) : S3 := if mv < na then hear (k mv) (m mv) s else thk s
def prun (k m : Nat → Nat) (na : Nat) (s : S3) : Nat → Nat → S3
  | 0, _ => s
  | f + 1, N => if N = 0 then s else stp k m na (N % 8 - 1) (prun k m na s f (N / 8))
def dl : Nat → Nat → Nat
  | 0, _ => 0
  | f + 1, N => if N = 0 then 0 else dl f (N / 8) + 1
def vld (na : Nat) : Nat → Nat → Prop
  | 0, N => N = 0
  | f + 1, N => N = 0 ∨ (1 ≤ N % 8 ∧ N % 8 ≤ na + 1 ∧ vld na f (N / 8))
def mvc (na mv : Nat) : Nat := if mv < na then mv else 9
def dig (N L i : Nat) : Nat := N / 8 ^ (L - 1 - i) % 8 - 1
def fewR (k m : Nat → Nat) (na : Nat) (s : S3) (L : Nat) : Option Nat → Prop
  | none => ∀ N, vld na 5 N → ¬ L ≤ (prun k m na s 5 N).1
  | some N => vld na 5 N ∧ L ≤ (prun k m na s 5 N).1 ∧ ∀ M, M < N → vld na 5 M → ¬ L ≤ (prun k m na s 5 M).1
def fewW (na : Nat) (ln : Nat) (wy : Nat → Nat) : Option Nat → Prop
  | none => ln = 4294967295
  | some N => ln = dl 5 N ∧ ∀ i, i < ln → wy i = mvc na (dig N ln i)
def tellF (na wt : Nat) : Option Nat → Nat
  | none => 4294967295
  | some N => if wt = 0 then dl 5 N else if wt - 10 < dl 5 N then mvc na (dig N (dl 5 N) (wt - 10)) else 4294967295
theorem fewR_one {k m : Nat → Nat} {na : Nat} {s : S3} {L : Nat} {r r' : Option Nat} (h : fewR k m na s L r) (h' : fewR k m na s L r') : r = r' := by
  cases r with
  | none =>
    cases r' with
    | none => rfl
    | some N => exact absurd h'.2.1 (h N h'.1)
  | some N =>
    cases r' with
    | none => exact absurd h.2.1 (h' N h.1)
    | some M =>
      rcases Nat.lt_trichotomy N M with q | q | q
      · exact absurd h.2.1 (h'.2.2 N q h.1)
      · rw [q]
      · exact absurd h'.2.1 (h.2.2 M q h'.1)
theorem ok_stp {k m : Nat → Nat} {na mv : Nat} {s : S3} (h : okS s) : okS (stp k m na mv s) := by
  simp only [stp]
  split
  · exact ok_hear h
  · exact ok_thk h
theorem ok_prun {k m : Nat → Nat} {na : Nat} {s : S3} (h : okS s) : ∀ {f N : Nat}, okS (prun k m na s f N)
  | 0, _ => h
  | f + 1, N => by
    simp only [prun]
    split
    · exact h
    · exact ok_stp (ok_prun h)
theorem dl_le : ∀ f N, dl f N ≤ f
  | 0, _ => Nat.le_refl 0
  | f + 1, N => by
    have := dl_le f (N / 8)
    simp only [dl]
    split <;> omega
theorem vld_less {na : Nat} : ∀ {f N : Nat}, vld na (f + 1) N → dl (f + 1) N ≤ f → vld na f N
  | 0, N, h, hd => by
    rcases h with h | h
    · exact h
    · simp only [dl] at hd
      split at hd
      · assumption
      · omega
  | f + 1, N, h, hd => by
    rcases h with h | ⟨h1, h2, h3⟩
    · exact Or.inl h
    · by_cases hN : N = 0
      · exact Or.inl hN
      · refine Or.inr ⟨h1, h2, vld_less h3 ?_⟩
        have e : dl (f + 1 + 1) N = dl (f + 1) (N / 8) + 1 := by simp only [dl]; rw [if_neg hN]
        omega
theorem vld_more {na : Nat} : ∀ {f N : Nat}, vld na f N → vld na (f + 1) N
  | 0, _, h => Or.inl h
  | f + 1, N, h => by
    rcases h with h | ⟨h1, h2, h3⟩
    · exact Or.inl h
    · exact Or.inr ⟨h1, h2, vld_more h3⟩
theorem prun_f {k m : Nat → Nat} {na : Nat} {s : S3} : ∀ {f N : Nat}, vld na f N → prun k m na s (f + 1) N = prun k m na s f N
  | 0, N, h => by simp only [prun]; rw [if_pos (show N = 0 from h)]
  | f + 1, N, h => by
    have e1 : prun k m na s (f + 1 + 1) N = if N = 0 then s else stp k m na (N % 8 - 1) (prun k m na s (f + 1) (N / 8)) := rfl
    have e2 : prun k m na s (f + 1) N = if N = 0 then s else stp k m na (N % 8 - 1) (prun k m na s f (N / 8)) := rfl
    rw [e1, e2]
    rcases h with h | ⟨h1, h2, h3⟩
    · rw [if_pos h, if_pos h]
    · rw [prun_f h3]
theorem dl_f {na : Nat} : ∀ {f N : Nat}, vld na f N → dl (f + 1) N = dl f N
  | 0, N, h => by simp only [dl]; rw [if_pos (show N = 0 from h)]
  | f + 1, N, h => by
    have e1 : dl (f + 1 + 1) N = if N = 0 then 0 else dl (f + 1) (N / 8) + 1 := rfl
    have e2 : dl (f + 1) N = if N = 0 then 0 else dl f (N / 8) + 1 := rfl
    rw [e1, e2]
    rcases h with h | ⟨h1, h2, h3⟩
    · rw [if_pos h, if_pos h]
    · rw [dl_f h3]
/-- a way with one move more -/
theorem child {k m : Nat → Nat} {na : Nat} {s : S3} (hna : na ≤ 5) {N mv : Nat} (hv : vld na 5 N) (hd : dl 5 N < 5) (hm : mv ≤ na) :
    vld na 5 (8 * N + mv + 1) ∧ dl 5 (8 * N + mv + 1) = dl 5 N + 1 ∧ prun k m na s 5 (8 * N + mv + 1) = stp k m na mv (prun k m na s 5 N) ∧ (8 * N + mv + 1) / 8 = N ∧ (8 * N + mv + 1) % 8 = mv + 1 := by
  have h4 : vld na 4 N := vld_less hv (show dl 5 N ≤ 4 by omega)
  have e1 : (8 * N + mv + 1) / 8 = N := by omega
  have e2 : (8 * N + mv + 1) % 8 = mv + 1 := by omega
  have e3 : ¬ 8 * N + mv + 1 = 0 := by omega
  refine ⟨Or.inr ⟨by omega, by omega, by rw [e1]; exact h4⟩, ?_, ?_, e1, e2⟩
  · show (if 8 * N + mv + 1 = 0 then 0 else dl 4 ((8 * N + mv + 1) / 8) + 1) = _
    rw [if_neg e3, e1, dl_f h4]
  · show (if 8 * N + mv + 1 = 0 then s else stp k m na ((8 * N + mv + 1) % 8 - 1) (prun k m na s 4 ((8 * N + mv + 1) / 8))) = _
    rw [if_neg e3, e1, e2, Nat.add_sub_cancel, ← prun_f h4]
theorem vld_lt {na : Nat} (hna : na ≤ 5) : ∀ {f N : Nat}, vld na f N → N < 8 ^ f
  | 0, N, h => by rw [show N = 0 from h]; decide
  | f + 1, N, h => by
    have hp := Nat.pow_pos (n := f) (show 0 < 8 by decide)
    rcases h with h | ⟨h1, h2, h3⟩
    · rw [h, Nat.pow_succ]; omega
    · have := vld_lt hna h3
      rw [Nat.pow_succ]
      omega
def sm (f : Nat → Nat) : Nat → Nat
  | 0 => 0
  | n + 1 => sm f n + f n
theorem sm_up {f : Nat → Nat} {c v : Nat} : ∀ {n : Nat}, c < n → sm (va_up f c v) n + f c = sm f n + v
  | 0, h => absurd h (Nat.not_lt_zero c)
  | n + 1, h => by
    have out : ∀ j, j ≤ c → sm (va_up f c v) j = sm f j := by
      intro j
      induction j with
      | zero => intro _; rfl
      | succ j ih => intro hj; simp only [sm]; rw [ih (by omega), up_ne (by omega)]
    simp only [sm]
    rcases Nat.lt_or_ge c n with q | q
    · have := sm_up (f := f) (v := v) q
      rw [up_ne (by omega)]; omega
    · have e : c = n := by omega
      subst e
      rw [out c (Nat.le_refl c), up_eq]; omega
theorem sm_le {f : Nat → Nat} (h : ∀ c, f c ≤ 1) : ∀ {n : Nat}, sm f n ≤ n
  | 0 => Nat.le_refl 0
  | n + 1 => by have := sm_le h (n := n); have := h n; simp only [sm]; omega
theorem sm_hole {f : Nat → Nat} (h : ∀ c, f c ≤ 1) {c : Nat} (h0 : f c = 0) : ∀ {n : Nat}, c < n → sm f n < n
  | 0, hc => absurd hc (Nat.not_lt_zero c)
  | n + 1, hc => by
    simp only [sm]
    have h1 := h n
    rcases Nat.lt_or_ge c n with q | q
    · have := sm_hole h h0 q; omega
    · have e : c = n := by omega
      subst e
      have := sm_le h (n := c); omega
abbrev BQ : Type := Nat × (Nat → Nat) × (Nat → Nat) × (Nat → Nat) × (Nat → Nat) × (Nat → Nat)
/-- meet: size, met, queue, from, by, steps -/
def meetP (c a wv st : Nat) (X : BQ) : BQ := if X.2.1 c = 0 then (X.1 + 1, va_up X.2.1 c 1, va_up X.2.2.1 X.1 c, va_up X.2.2.2.1 X.1 a, va_up X.2.2.2.2.1 X.1 wv, va_up X.2.2.2.2.2 X.1 st) else X
def goP (k m : Nat → Nat) (na a : Nat) (X : BQ) : Nat → BQ
  | 0 => X
  | i + 1 => meetP (codS (stp k m na i (decS (X.2.2.1 a)))) a (mvc na i) (X.2.2.2.2.2 a + 1) (goP k m na a X i)
/-- what holds of the queue while the a-th is gone on from, its moves below mv being done; P j: the way to the j-th -/
def BI (k m : Nat → Nat) (na : Nat) (s : S3) (L a mv : Nat) (X : BQ) (P : Nat → Nat) : Prop :=
  sm X.2.1 420 = X.1 ∧ (∀ c, X.2.1 c ≤ 1) ∧
  (∀ j, j < X.1 → vld na 5 (P j) ∧ X.2.2.1 j = codS (prun k m na s 5 (P j)) ∧ X.2.2.2.2.2 j = dl 5 (P j)) ∧
  (∀ j, j < X.1 → 0 < j → X.2.2.2.1 j < j ∧ P j = 8 * P (X.2.2.2.1 j) + P j % 8 ∧ X.2.2.2.2.1 j = mvc na (P j % 8 - 1) ∧ 1 ≤ P j % 8 ∧ P j % 8 ≤ 6) ∧
  (0 < X.1 ∧ P 0 = 0) ∧ (∀ i j, i < j → j < X.1 → P i < P j) ∧
  (∀ c, X.2.1 c = 1 → ∃ j, j < X.1 ∧ X.2.2.1 j = c) ∧ (∀ j, j < X.1 → X.2.1 (X.2.2.1 j) = 1) ∧
  (∀ i, i < X.1 → dl 5 (P i) < 5 → ∀ v, v ≤ na → (i < a ∨ (i = a ∧ v < mv)) → ∃ j, j < X.1 ∧ X.2.2.1 j = codS (stp k m na v (prun k m na s 5 (P i))) ∧ P j ≤ 8 * P i + v + 1) ∧
  (∀ j, j < X.1 → 0 < j → X.2.2.2.1 j < a ∨ (X.2.2.2.1 j = a ∧ P j % 8 - 1 < mv)) ∧
  (∀ j, j < a → j < X.1 → ¬ L ≤ (prun k m na s 5 (P j)).1)
theorem BI_next {k m : Nat → Nat} {na : Nat} {s : S3} {L a : Nat} {X : BQ} {P : Nat → Nat} (h : BI k m na s L a (na + 1) X P) (hna : na ≤ 5) (ht : ¬ L ≤ (prun k m na s 5 (P a)).1) : BI k m na s L (a + 1) 0 X P := by
  obtain ⟨h1, h2, h3, h4, h5, h6, h7, h8, h9, h10, h11⟩ := h
  refine ⟨h1, h2, h3, h4, h5, h6, h7, h8, ?_, ?_, ?_⟩
  · intro i hi hd v hv hc
    exact h9 i hi hd v hv (by omega)
  · intro j hj h0
    have := h10 j hj h0
    omega
  · intro j hj hjX
    rcases Nat.lt_or_ge j a with q | q
    · exact h11 j q hjX
    · rw [show j = a by omega]; exact ht
theorem BI_full {k m : Nat → Nat} {na : Nat} {s : S3} {L a mv : Nat} {X : BQ} {P : Nat → Nat} (h : BI k m na s L a mv X P) (hd : 5 ≤ dl 5 (P a)) (hmv : mv = 0) : BI k m na s L a (na + 1) X P := by
  obtain ⟨h1, h2, h3, h4, h5, h6, h7, h8, h9, h10, h11⟩ := h
  refine ⟨h1, h2, h3, h4, h5, h6, h7, h8, ?_, ?_, h11⟩
  · intro i hi hd2 v hv hc
    refine h9 i hi hd2 v hv ?_
    rcases hc with q | q
    · exact Or.inl q
    · rw [q.1] at hd2; omega
  · intro j hj h0
    have := h10 j hj h0
    omega
theorem BI_0 {k m : Nat → Nat} {na : Nat} {s : S3} {L : Nat} (oks : okS s) {qu fm b sp : Nat → Nat} : BI k m na s L 0 0 (meetP (codS s) 4294967295 4294967295 0 (0, fun _ => 0, qu, fm, b, sp)) (fun _ => 0) := by
  have hc := codS_lt oks
  have hz : ∀ n, sm (fun _ => 0) n = 0 := by
    intro n
    induction n with
    | zero => rfl
    | succ n ih => simp only [sm]; rw [ih]
  have hs := sm_up (f := fun _ => 0) (v := 1) hc
  rw [hz] at hs
  simp only [meetP, if_true]
  refine ⟨by simp only at hs ⊢; omega, ?_, ?_, ?_, ⟨by simp, rfl⟩, ?_, ?_, ?_, ?_, ?_, ?_⟩
  · intro c; simp only [va_up]; split <;> omega
  · intro j hj
    have e : j = 0 := by simp only at hj; omega
    subst e
    exact ⟨Or.inl rfl, by simp [up_eq, prun], by simp [up_eq, dl]⟩
  · intro j hj h0; simp only at hj; omega
  · intro i j hij hj; simp only at hj; omega
  · intro c hcc
    simp only [va_up] at hcc
    split at hcc
    · exact ⟨0, by simp, by simp [up_eq]; omega⟩
    · omega
  · intro j hj
    have e : j = 0 := by simp only at hj; omega
    subst e
    simp [up_eq]
  · intro i hi hd v hv hcc; omega
  · intro j hj h0; simp only at hj; omega
  · intro j hj; omega
theorem BI_meet {k m : Nat → Nat} {na : Nat} {s : S3} {L a mv : Nat} {X : BQ} {P : Nat → Nat} (oks : okS s) (hna : na ≤ 5) (h : BI k m na s L a mv X P) (ha : a < X.1) (hd : dl 5 (P a) < 5) (hmv : mv ≤ na) :
    ∃ P', BI k m na s L a (mv + 1) (meetP (codS (stp k m na mv (prun k m na s 5 (P a)))) a (mvc na mv) (X.2.2.2.2.2 a + 1) X) P' ∧ P' a = P a := by
  obtain ⟨h1, h2, h3, h4, h5, h6, h7, h8, h9, h10, h11⟩ := h
  have hva := (h3 a ha).1
  obtain ⟨c1, c2, c3, c4, c5⟩ := child (k := k) (m := m) (s := s) hna hva hd hmv
  have hcl : codS (stp k m na mv (prun k m na s 5 (P a))) < 420 := codS_lt (ok_stp (ok_prun oks))
  have hlt : ∀ j, j < X.1 → P j < 8 * P a + mv + 1 := by
    intro j hj
    rcases Nat.eq_zero_or_pos j with e | e
    · rw [e, h5.2]; omega
    · obtain ⟨q1, q2, q3, q4, q5⟩ := h4 j hj e
      rcases h10 j hj e with z | ⟨z1, z2⟩
      · have := h6 _ _ z ha; omega
      · rw [z1] at q2; omega
  by_cases hm : X.2.1 (codS (stp k m na mv (prun k m na s 5 (P a)))) = 0
  · refine ⟨va_up P X.1 (8 * P a + mv + 1), ?_, up_ne (by omega)⟩
    have hs := sm_up (f := X.2.1) (v := 1) hcl
    have hsz := sm_hole h2 hm hcl
    simp only [meetP, hm, if_true]
    have hPold : ∀ j, j < X.1 → va_up P X.1 (8 * P a + mv + 1) j = P j := fun j hj => up_ne (by omega)
    refine ⟨by simp only; omega, ?_, ?_, ?_, ⟨by simp only; omega, by rw [hPold 0 h5.1]; exact h5.2⟩, ?_, ?_, ?_, ?_, ?_, ?_⟩
    · intro c; simp only [va_up]; split
      · omega
      · exact h2 c
    · intro j hj
      simp only at hj ⊢
      rcases Nat.lt_or_ge j X.1 with q | q
      · rw [hPold j q, up_ne (by omega), up_ne (by omega)]; exact h3 j q
      · rw [show j = X.1 by omega, up_eq, up_eq, up_eq]
        exact ⟨c1, by rw [c3], by rw [c2, (h3 a ha).2.2]⟩
    · intro j hj h0
      simp only at hj ⊢
      rcases Nat.lt_or_ge j X.1 with q | q
      · have z := h4 j q h0
        rw [hPold j q, up_ne (by omega), up_ne (by omega), up_ne (by omega)]; exact z
      · rw [show j = X.1 by omega, up_eq, up_eq, up_eq, hPold a ha, c5]
        exact ⟨ha, by omega, by rw [Nat.add_sub_cancel], by omega, by omega⟩
    · intro i j hij hj
      simp only at hj
      rcases Nat.lt_or_ge j X.1 with q | q
      · rw [hPold j q, hPold i (by omega)]; exact h6 i j hij q
      · rw [show j = X.1 by omega, up_eq, hPold i (by omega)]; exact hlt i (by omega)
    · intro c hc
      simp only at hc ⊢
      by_cases e : c = codS (stp k m na mv (prun k m na s 5 (P a)))
      · exact ⟨X.1, by omega, by rw [up_eq, e]⟩
      · rw [up_ne e] at hc
        obtain ⟨j, q1, q2⟩ := h7 c hc
        exact ⟨j, by omega, by rw [up_ne (by omega)]; exact q2⟩
    · intro j hj
      simp only at hj ⊢
      rcases Nat.lt_or_ge j X.1 with q | q
      · rw [up_ne (show j ≠ X.1 by omega)]
        have z := h8 j q
        rw [up_ne]; exact z
        intro e; rw [e] at z; omega
      · rw [show j = X.1 by omega, up_eq, up_eq]
    · intro i hi hdi v hv hc
      simp only at hi ⊢
      rcases Nat.lt_or_ge i X.1 with q | q
      · rw [hPold i q] at hdi ⊢
        by_cases e : i = a ∧ v = mv
        · obtain ⟨e1, e2⟩ := e
          subst e1; subst e2
          exact ⟨X.1, by omega, by rw [up_eq], by rw [up_eq]; exact Nat.le_refl _⟩
        · obtain ⟨j, z1, z2, z3⟩ := h9 i q hdi v hv (by omega)
          exact ⟨j, by omega, by rw [up_ne (by omega)]; exact z2, by rw [hPold j z1]; exact z3⟩
      · omega
    · intro j hj h0
      simp only at hj ⊢
      rcases Nat.lt_or_ge j X.1 with q | q
      · rw [up_ne (show j ≠ X.1 by omega), hPold j q]
        have := h10 j q h0; omega
      · rw [show j = X.1 by omega, up_eq, up_eq, c5]; omega
    · intro j hj hjX
      simp only at hjX
      rw [hPold j (by omega)]
      exact h11 j hj (by omega)
  · refine ⟨P, ?_, rfl⟩
    simp only [meetP, hm, if_false]
    refine ⟨h1, h2, h3, h4, h5, h6, h7, h8, ?_, ?_, h11⟩
    · intro i hi hdi v hv hc
      by_cases e : i = a ∧ v = mv
      · obtain ⟨e1, e2⟩ := e
        subst e1; subst e2
        obtain ⟨j, z1, z2⟩ := h7 _ (show X.2.1 (codS (stp k m na v (prun k m na s 5 (P i)))) = 1 by have := h2 (codS (stp k m na v (prun k m na s 5 (P i)))); omega)
        exact ⟨j, z1, z2, Nat.le_of_lt (hlt j z1)⟩
      · exact h9 i hi hdi v hv (by omega)
    · intro j hj h0
      have := h10 j hj h0; omega
theorem BI_few {k m : Nat → Nat} {na : Nat} {s : S3} {L a : Nat} {X : BQ} {P : Nat → Nat} (oks : okS s) (hna : na ≤ 5) (h : BI k m na s L a 0 X P) {B : Nat} (hB : ∀ j, j < X.1 → P j < B → j < a) :
    ∀ f N, f ≤ 5 → vld na f N → N < B → ∃ j, j < X.1 ∧ X.2.2.1 j = codS (prun k m na s 5 N) ∧ P j ≤ N := by
  obtain ⟨h1, h2, h3, h4, h5, h6, h7, h8, h9, h10, h11⟩ := h
  intro f
  induction f with
  | zero =>
    intro N _ hv _
    rw [show N = 0 from hv]
    exact ⟨0, h5.1, by rw [(h3 0 h5.1).2.1, h5.2], by rw [h5.2]; exact Nat.le_refl 0⟩
  | succ f ih =>
    intro N hf hv hNB
    rcases hv with e | ⟨q1, q2, q3⟩
    · rw [e]
      exact ⟨0, h5.1, by rw [(h3 0 h5.1).2.1, h5.2], by rw [h5.2]; exact Nat.le_refl 0⟩
    · obtain ⟨j, z1, z2, z3⟩ := ih (N / 8) (by omega) q3 (by omega)
      have hja : j < a := hB j z1 (by omega)
      have hup : ∀ g, f ≤ g → vld na g (N / 8) := by
        intro g hg
        induction g with
        | zero => rw [show f = 0 by omega] at q3; exact q3
        | succ g ihg =>
          rcases Nat.lt_or_ge f (g + 1) with w | w
          · exact vld_more (ihg (by omega))
          · rw [show g + 1 = f by omega]; exact q3
      have hd8 : dl 5 (N / 8) ≤ f := by
        have key : ∀ g, f ≤ g → dl g (N / 8) = dl f (N / 8) := by
          intro g hg
          induction g with
          | zero => rw [show f = 0 by omega]
          | succ g ihg =>
            rcases Nat.lt_or_ge f (g + 1) with w | w
            · rw [dl_f (hup g (by omega)), ihg (by omega)]
            · rw [show g + 1 = f by omega]
        rw [key 5 (by omega)]; exact dl_le f _
      have mono : ∀ M N', M ≤ N' → ∀ g, dl g M ≤ dl g N' := by
        intro M N' hMN g
        induction g generalizing M N' with
        | zero => exact Nat.le_refl 0
        | succ g ihg =>
          simp only [dl]
          split
          · exact Nat.zero_le _
          · rw [if_neg (by omega)]
            have := ihg (M / 8) (N' / 8) (Nat.div_le_div_right hMN)
            omega
      have hdj : dl 5 (P j) < 5 := by have := mono _ _ z3 5; omega
      have hdN : dl 5 (N / 8) < 5 := by omega
      obtain ⟨c1, c2, c3, c4, c5⟩ := child (k := k) (m := m) (s := s) hna (hup 5 (by omega)) hdN (show N % 8 - 1 ≤ na by omega)
      have eN : 8 * (N / 8) + (N % 8 - 1) + 1 = N := by omega
      rw [eN] at c3
      obtain ⟨i, y1, y2, y3⟩ := h9 j z1 hdj (N % 8 - 1) (by omega) (Or.inl hja)
      refine ⟨i, y1, ?_, by omega⟩
      rw [y2, c3]
      have hst : prun k m na s 5 (P j) = prun k m na s 5 (N / 8) := by
        have e := (h3 j z1).2.1.symm.trans z2
        rw [← decS_cod (ok_prun (k := k) (m := m) (na := na) oks (f := 5) (N := P j)), e, decS_cod (ok_prun oks)]
      rw [hst]
theorem cod_tide {s t : S3} (hs : okS s) (ht : okS t) (h : codS s = codS t) : s = t := by rw [← decS_cod hs, h, decS_cod ht]
theorem few_yes {k m : Nat → Nat} {na : Nat} {s : S3} {L a : Nat} {X : BQ} {P : Nat → Nat} (oks : okS s) (hna : na ≤ 5) (h : BI k m na s L a 0 X P) (ha : a < X.1) (ht : L ≤ (prun k m na s 5 (P a)).1) : fewR k m na s L (some (P a)) := by
  have h' := h
  obtain ⟨h1, h2, h3, h4, h5, h6, h7, h8, h9, h10, h11⟩ := h'
  refine ⟨(h3 a ha).1, ht, fun M hM hv hL => ?_⟩
  have hB : ∀ j, j < X.1 → P j < P a → j < a := by
    intro j hj hlt
    rcases Nat.lt_trichotomy j a with q | q | q
    · exact q
    · rw [q] at hlt; omega
    · have := h6 a j q hj; omega
  obtain ⟨j, z1, z2, z3⟩ := BI_few oks hna h hB 5 M (Nat.le_refl 5) hv hM
  have hja := hB j z1 (by omega)
  have e : prun k m na s 5 (P j) = prun k m na s 5 M := cod_tide (ok_prun oks) (ok_prun oks) ((h3 j z1).2.1.symm.trans z2)
  exact h11 j hja z1 (by rw [e]; exact hL)
theorem few_no {k m : Nat → Nat} {na : Nat} {s : S3} {L a : Nat} {X : BQ} {P : Nat → Nat} (oks : okS s) (hna : na ≤ 5) (h : BI k m na s L a 0 X P) (ha : X.1 ≤ a) : fewR k m na s L none := by
  have h' := h
  obtain ⟨h1, h2, h3, h4, h5, h6, h7, h8, h9, h10, h11⟩ := h'
  intro N hv hL
  obtain ⟨j, z1, z2, z3⟩ := BI_few oks hna h (B := N + 1) (fun j hj _ => by omega) 5 N (Nat.le_refl 5) hv (by omega)
  have e : prun k m na s 5 (P j) = prun k m na s 5 N := cod_tide (ok_prun oks) (ok_prun oks) ((h3 j z1).2.1.symm.trans z2)
  exact h11 j (by omega) z1 (by rw [e]; exact hL)
