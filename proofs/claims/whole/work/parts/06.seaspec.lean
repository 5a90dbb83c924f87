/-! the sea, as numbers: tide, grudge, whether it stays -/
abbrev S3 : Type := Nat × Nat × Nat
def okS (s : S3) : Prop := s.1 ≤ 20 ∧ s.2.1 ≤ 9 ∧ s.2.2 ≤ 1
def rise (k h : Nat) : Nat := if k = 1 then h / 3 else if k = 2 then 2 * h else if k = 3 then 0 else if k = 4 then 0 else h
def offn (k : Nat) : Nat := if k = 1 then 1 else if k = 2 then 1 else if k = 4 then 2 else 0
def hear (k m : Nat) (s : S3) : S3 := (min 20 (s.1 + rise k (m - s.2.1)), min 9 (s.2.1 + offn k), if k = 3 then 1 else s.2.2)
def thk (s : S3) : S3 := (if s.2.2 = 0 then s.1 - 3 else s.1, s.2.1 - 1, 0)
def codS (s : S3) : Nat := (s.1 * 10 + s.2.1) * 2 + s.2.2
def decS (c : Nat) : S3 := (c / 2 / 10, c / 2 % 10, c % 2)
def goodN (s : S3) : Nat := s.2.1 + (min s.1 ((if s.2.2 = 0 then s.2.1 else s.2.1 - 1) * 3) + 9 - 1) / 9
theorem ok_hear {k m : Nat} {s : S3} (h : okS s) : okS (hear k m s) := by
  obtain ⟨h1, h2, h3⟩ := h
  refine ⟨Nat.min_le_left _ _, Nat.min_le_left _ _, ?_⟩
  show (if k = 3 then 1 else s.2.2) ≤ 1
  split <;> omega
theorem ok_thk {s : S3} (h : okS s) : okS (thk s) := by
  obtain ⟨h1, h2, h3⟩ := h
  refine ⟨?_, ?_, Nat.zero_le _⟩
  · show (if s.2.2 = 0 then s.1 - 3 else s.1) ≤ 20
    split <;> omega
  · show s.2.1 - 1 ≤ 9
    omega
theorem decS_cod {s : S3} (h : okS s) : decS (codS s) = s := by
  obtain ⟨t, g, b⟩ := s
  obtain ⟨h1, h2, h3⟩ := h
  simp only at h1 h2 h3
  simp only [decS, codS, Prod.mk.injEq]
  refine ⟨by omega, by omega, by omega⟩
theorem codS_lt {s : S3} (h : okS s) : codS s < 420 := by
  obtain ⟨h1, h2, h3⟩ := h
  simp only [codS]
  omega
theorem ok_decS {c : Nat} (h : c < 420) : okS (decS c) := by
  refine ⟨?_, ?_, ?_⟩ <;> simp only [decS] <;> omega
