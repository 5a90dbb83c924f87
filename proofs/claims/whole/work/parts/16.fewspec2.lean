theorem goP_BI {k m : Nat → Nat} {na : Nat} {s : S3} {L a : Nat} {X : BQ} {P : Nat → Nat} (oks : okS s) (hna : na ≤ 5) (h : BI k m na s L a 0 X P) (ha : a < X.1) (hd : dl 5 (P a) < 5) : ∀ i, i ≤ na + 1 → ∃ P', BI k m na s L a i (goP k m na a X i) P' ∧ P' a = P a ∧ X.1 ≤ (goP k m na a X i).1
  | 0, _ => ⟨P, h, rfl, Nat.le_refl _⟩
  | i + 1, hi => by
    obtain ⟨Q, h1, h2, h3⟩ := goP_BI oks hna h ha hd i (by omega)
    obtain ⟨Q', g1, g2⟩ := BI_meet oks hna h1 (by omega) (by rw [h2]; exact hd) (show i ≤ na by omega)
    have e1 : decS (X.2.2.1 a) = prun k m na s 5 (Q a) := by rw [(h.2.2.1 a ha).2.1, decS_cod (ok_prun oks), h2]
    have e2 : (goP k m na a X i).2.2.2.2.2 a = X.2.2.2.2.2 a := by rw [(h1.2.2.1 a (by omega)).2.2, h2, (h.2.2.1 a ha).2.2]
    refine ⟨Q', ?_, by rw [g2, h2], ?_⟩
    · show BI k m na s L a (i + 1) (meetP (codS (stp k m na i (decS (X.2.2.1 a)))) a (mvc na i) (X.2.2.2.2.2 a + 1) (goP k m na a X i)) Q'
      rw [e1, ← e2]; exact g1
    · show X.1 ≤ (meetP (codS (stp k m na i (decS (X.2.2.1 a)))) a (mvc na i) (X.2.2.2.2.2 a + 1) (goP k m na a X i)).1
      simp only [meetP]
      split
      · simp only; omega
      · exact h3
theorem BI_at {k m : Nat → Nat} {na : Nat} {s : S3} {L a i : Nat} {X Y : BQ} {P Q : Nat → Nat} (h : BI k m na s L a 0 X P) (ha : a < X.1) (h1 : BI k m na s L a i Y Q) (h2 : Q a = P a) (h3 : X.1 ≤ Y.1) : Y.2.2.1 a = X.2.2.1 a ∧ Y.2.2.2.2.2 a = X.2.2.2.2.2 a ∧ Y.1 ≤ 420 ∧ (∀ c, Y.2.1 c = 0 → c < 420 → Y.1 < 420) := by
  refine ⟨by rw [(h1.2.2.1 a (by omega)).2.1, h2, (h.2.2.1 a ha).2.1], by rw [(h1.2.2.1 a (by omega)).2.2, h2, (h.2.2.1 a ha).2.2], by rw [← h1.1]; exact sm_le h1.2.1, fun c h0 hc => by rw [← h1.1]; exact sm_hole h1.2.1 h0 hc⟩
theorem dl_par {na : Nat} {N : Nat} (hv : vld na 5 N) (h : 0 < N) : dl 5 (N / 8) = dl 5 N - 1 ∧ 0 < dl 5 N := by
  rcases hv with e | ⟨h1, h2, h3⟩
  · omega
  · have e : dl 5 N = dl 4 (N / 8) + 1 := by
      show (if N = 0 then 0 else dl 4 (N / 8) + 1) = _
      rw [if_neg (by omega)]
    have e2 : dl 5 (N / 8) = dl 4 (N / 8) := dl_f h3
    omega
theorem dl_0 {N : Nat} (h : 0 < dl 5 N) : 0 < N := by
  rcases Nat.eq_zero_or_pos N with e | e
  · rw [e] at h; exact absurd h (by decide)
  · exact e
theorem fewW_5 {na ln : Nat} {wy : Nat → Nat} {r : Option Nat} (h : fewW na ln wy r) : ln = 4294967295 ∨ ln ≤ 5 := by
  cases r with
  | none => exact Or.inl h
  | some N => exact Or.inr (by rw [h.1]; exact dl_le 5 N)
theorem tell_lt {na ln t : Nat} {wy : Nat → Nat} {r : Option Nat} (h : fewW na ln wy r) (ht : t ≤ 4) : nI ln ≤ nI t ↔ (ln = 4294967295 ∨ ln ≤ t) := by
  rcases fewW_5 h with e | e
  · subst e
    rcases (show t = 0 ∨ t = 1 ∨ t = 2 ∨ t = 3 ∨ t = 4 by omega) with rfl | rfl | rfl | rfl | rfl <;> decide
  · rw [cLE (by omega) (by omega)]; omega
theorem tellF_0 {na ln wt : Nat} {wy : Nat → Nat} {r : Option Nat} (h : fewW na ln wy r) (hw : wt = 0) : ln = tellF na wt r := by
  cases r with
  | none => exact h
  | some N => show ln = if wt = 0 then dl 5 N else _; rw [if_pos hw]; exact h.1
theorem tellF_in {na ln wt : Nat} {wy : Nat → Nat} {r : Option Nat} (h : fewW na ln wy r) (hw : 10 ≤ wt) (hc : ¬ (ln = 4294967295 ∨ ln ≤ wt - 10)) : wy (wt - 10) = tellF na wt r := by
  cases r with
  | none => exact absurd (Or.inl h) hc
  | some N =>
    have e : ln = dl 5 N := h.1
    show _ = if wt = 0 then dl 5 N else if wt - 10 < dl 5 N then mvc na (dig N (dl 5 N) (wt - 10)) else 4294967295
    rw [if_neg (by omega), if_pos (by omega), h.2 _ (by omega), e]
theorem tellF_out {na ln wt : Nat} {wy : Nat → Nat} {r : Option Nat} (h : fewW na ln wy r) (hw : 10 ≤ wt) (hc : ln = 4294967295 ∨ ln ≤ wt - 10) : 4294967295 = tellF na wt r := by
  cases r with
  | none => rfl
  | some N =>
    have e : ln = dl 5 N := h.1
    have e5 := dl_le 5 N
    show _ = if wt = 0 then dl 5 N else if wt - 10 < dl 5 N then mvc na (dig N (dl 5 N) (wt - 10)) else 4294967295
    rw [if_neg (by omega), if_neg (by omega)]
