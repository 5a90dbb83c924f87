/-! reading, as the class goes: place, sands, boats, askers, and their rows -/
abbrev RT : Type := Nat × Nat × Nat × Nat × (Nat → Nat) × (Nat → Nat) × (Nat → Nat) × (Nat → Nat) × (Nat → Nat)
def kd (c : Nat) : Nat := if c = 97 then 0 else if c = 114 then 1 else if c = 115 then 2 else if c = 108 then 3 else if c = 102 then 4 else 4294967295
def rd (c : Nat) : RT → Option RT
  | (pl, ns, nb, na, h, w, d, k, m) =>
    if pl = 0 then (if c = 59 then (if 3 ≤ ns then some (1, ns, nb, na, h, w, d, k, m) else none) else (if 48 ≤ c ∧ c ≤ 57 ∧ ns < 8 then some (0, ns + 1, nb, na, va_up h ns (c - 48), w, d, k, m) else none))
    else if pl = 1 then (if 48 ≤ c ∧ c - 48 < ns ∧ nb < 3 then some (2, ns, nb, na, h, va_up w nb (c - 48), d, k, m) else none)
    else if pl = 2 then (if 48 ≤ c ∧ c ≤ 57 ∧ nb < 3 then some (3, ns, nb + 1, na, h, w, va_up d nb (c - 48), k, m) else none)
    else if pl = 3 then (if c = 59 then some (4, ns, nb, na, h, w, d, k, m) else (if c = 44 ∧ nb < 3 then some (1, ns, nb, na, h, w, d, k, m) else none))
    else if pl = 4 then (if kd c ≤ 4 ∧ na < 5 then some (5, ns, nb, na, h, w, d, va_up k na (kd c), m) else none)
    else if pl = 5 then (if 48 ≤ c ∧ c ≤ 57 ∧ na < 5 then some (6, ns, nb, na + 1, h, w, d, k, va_up m na (c - 48)) else none)
    else (if c = 44 ∧ na < 5 then some (4, ns, nb, na, h, w, d, k, m) else none)
def rdI (pg : Nat → Nat) (R : RT) : Nat → Bool × Nat × RT
  | 0 => (true, 0, R)
  | i + 1 => if (rdI pg R i).1 = true then (match rd (pg i) (rdI pg R i).2.2 with | some R' => (true, i + 1, R') | none => (false, i, (rdI pg R i).2.2)) else rdI pg R i
theorem rdI_yes {pg : Nat → Nat} {R R1 R2 : RT} {i : Nat} (h : rdI pg R i = (true, i, R1)) (h2 : rd (pg i) R1 = some R2) : rdI pg R (i + 1) = (true, i + 1, R2) := by
  simp only [rdI, h, h2, if_true]
theorem rdI_no {pg : Nat → Nat} {R R1 : RT} {i : Nat} (h : rdI pg R i = (true, i, R1)) (h2 : rd (pg i) R1 = none) : rdI pg R (i + 1) = (false, i, R1) := by
  simp only [rdI, h, h2, if_true]
theorem rdI_stop {pg : Nat → Nat} {R : RT} {i : Nat} {x : Nat × RT} (h : rdI pg R i = (false, x)) : ∀ j, i ≤ j → rdI pg R j = (false, x)
  | 0, hj => by rw [show i = 0 by omega] at h; exact h
  | j + 1, hj => by
    rcases Nat.lt_or_ge i (j + 1) with q | q
    · have e := rdI_stop h j (by omega)
      simp [rdI, e]
    · rw [← show i = j + 1 by omega]; exact h
theorem kd_le (c : Nat) : kd c ≤ 4 ∨ kd c = 4294967295 := by
  simp only [kd]
  repeat' split
  all_goals omega
theorem kkle {kk : Nat} (h : kk ≤ 4 ∨ kk = 4294967295) : nI (if 0 ≤ (nI kk).toInt ∧ (nI kk).toInt ≤ 4 then 1 else 0) = 0 ↔ ¬ kk ≤ 4 := by
  rcases h with h | h
  · rw [nti (by omega), b0_eq]; omega
  · subst h; decide
theorem dgx {c : Nat} {x : Int32} (hx : x = nI c - nI 48) (hc : c ≤ 126) : x.toInt = (c : Int) - 48 := by rw [hx]; exact pk_sub_toInt (by omega) (by decide)
/-- bounds of what has been read -/
def rdB : RT → Prop
  | (pl, ns, nb, na, h, w, d, k, m) => pl ≤ 6 ∧ okB ns nb h w d ∧ okK na k m ∧ (pl = 2 → nb < 3 ∧ w nb < ns) ∧ (pl = 5 → na < 5 ∧ k na ≤ 4)
theorem some_of {α : Type} {o : Option α} {u R : α} (h : o.isSome = true) (e : u = o.getD R) : o = some u := by
  cases o with
  | none => exact Bool.noConfusion h
  | some x => rw [e]; rfl
theorem none_of {α : Type} {o : Option α} (h : ¬ o.isSome = true) : o = none := by
  cases o with
  | none => rfl
  | some x => exact absurd rfl h
theorem up_all {f : Nat → Nat} {n v b : Nat} (h : ∀ i, i < n → f i ≤ b) (hv : v ≤ b) : ∀ i, i < n + 1 → va_up f n v i ≤ b := by
  intro i hi
  simp only [va_up]
  split
  · exact hv
  · exact h i (by omega)
theorem up_keep {f : Nat → Nat} {n v b : Nat} (h : ∀ i, i < n → f i ≤ b) : ∀ i, i < n → va_up f n v i ≤ b := by
  intro i hi
  rw [up_ne (by omega)]; exact h i hi
theorem rdB_rd {c : Nat} {R R' : RT} (hR : rdB R) (h : rd c R = some R') : rdB R' := by
  obtain ⟨pl, ns, nb, na, h_, w, d, k, m⟩ := R
  obtain ⟨h1, ⟨a1, a2, a3, a4, a5⟩, ⟨b1, b2, b3⟩, h4, h5⟩ := hR
  simp only [rd] at h
  split at h
  · split at h
    · split at h
      · cases h; exact ⟨by omega, ⟨a1, a2, a3, a4, a5⟩, ⟨b1, b2, b3⟩, fun z => absurd z (by decide), fun z => absurd z (by decide)⟩
      · cases h
    · split at h
      · rename_i hT
        cases h
        exact ⟨by omega, ⟨by omega, a2, up_all a3 (by omega), fun b hb => by have := a4 b hb; omega, a5⟩, ⟨b1, b2, b3⟩, fun z => absurd z (by decide), fun z => absurd z (by decide)⟩
      · cases h
  · split at h
    · split at h
      · rename_i hT
        cases h
        refine ⟨by omega, ⟨a1, a2, a3, fun b hb => by rw [up_ne (by omega)]; exact a4 b hb, a5⟩, ⟨b1, b2, b3⟩, fun _ => ⟨by omega, by rw [up_eq]; omega⟩, fun z => absurd z (by decide)⟩
      · cases h
    · split at h
      · split at h
        · rename_i hp hT
          cases h
          have h42 := h4 hp
          refine ⟨by omega, ⟨a1, by omega, a3, fun b hb => ?_, up_all a5 (by omega)⟩, ⟨b1, b2, b3⟩, fun z => absurd z (by decide), fun z => absurd z (by decide)⟩
          rcases Nat.lt_or_ge b nb with q | q
          · exact a4 b q
          · rw [show b = nb by omega]; exact h42.2
        · cases h
      · split at h
        · split at h
          · cases h; exact ⟨by omega, ⟨a1, a2, a3, a4, a5⟩, ⟨b1, b2, b3⟩, fun z => absurd z (by decide), fun z => absurd z (by decide)⟩
          · split at h
            · cases h; exact ⟨by omega, ⟨a1, a2, a3, a4, a5⟩, ⟨b1, b2, b3⟩, fun z => absurd z (by decide), fun z => absurd z (by decide)⟩
            · cases h
        · split at h
          · split at h
            · rename_i hT
              cases h
              exact ⟨by omega, ⟨a1, a2, a3, a4, a5⟩, ⟨b1, up_keep b2, b3⟩, fun z => absurd z (by decide), fun _ => ⟨by omega, by rw [up_eq]; omega⟩⟩
            · cases h
          · split at h
            · split at h
              · rename_i hp hT
                cases h
                have h52 := h5 hp
                refine ⟨by omega, ⟨a1, a2, a3, a4, a5⟩, ⟨by omega, fun i hi => ?_, up_all b3 (by omega)⟩, fun z => absurd z (by decide), fun z => absurd z (by decide)⟩
                rcases Nat.lt_or_ge i na with q | q
                · exact b2 i q
                · rw [show i = na by omega]; exact h52.2
              · cases h
            · split at h
              · cases h; exact ⟨by omega, ⟨a1, a2, a3, a4, a5⟩, ⟨b1, b2, b3⟩, fun z => absurd z (by decide), fun z => absurd z (by decide)⟩
              · cases h
theorem rdB_0 (h w d k m : Nat → Nat) : rdB (0, 0, 0, 0, h, w, d, k, m) := ⟨by omega, ⟨by omega, by omega, fun _ z => absurd z (Nat.not_lt_zero _), fun _ z => absurd z (Nat.not_lt_zero _), fun _ z => absurd z (Nat.not_lt_zero _)⟩, ⟨by omega, fun _ z => absurd z (Nat.not_lt_zero _), fun _ z => absurd z (Nat.not_lt_zero _)⟩, fun z => absurd z (by decide), fun z => absurd z (by decide)⟩
theorem rdI_B {pg : Nat → Nat} {R : RT} (hR : rdB R) : ∀ n, rdB (rdI pg R n).2.2
  | 0 => hR
  | n + 1 => by
    have ih := rdI_B hR n (pg := pg)
    simp only [rdI]
    split
    · split
      · rename_i R' e; exact rdB_rd ih e
      · exact ih
    · exact ih
theorem rd_0 {c pl ns nb na : Nat} {h w d k m : Nat → Nat} (s : pl = 0) : rd c (pl, ns, nb, na, h, w, d, k, m) = (if c = 59 then (if 3 ≤ ns then some (1, ns, nb, na, h, w, d, k, m) else none) else (if 48 ≤ c ∧ c ≤ 57 ∧ ns < 8 then some (0, ns + 1, nb, na, va_up h ns (c - 48), w, d, k, m) else none)) := by
  simp only [rd]
  rw [if_pos s]
theorem rd_1 {c pl ns nb na : Nat} {h w d k m : Nat → Nat} (s : pl = 1) : rd c (pl, ns, nb, na, h, w, d, k, m) = (if 48 ≤ c ∧ c - 48 < ns ∧ nb < 3 then some (2, ns, nb, na, h, va_up w nb (c - 48), d, k, m) else none) := by
  simp only [rd]
  rw [if_neg (show ¬ pl = 0 by omega), if_pos s]
theorem rd_2 {c pl ns nb na : Nat} {h w d k m : Nat → Nat} (s : pl = 2) : rd c (pl, ns, nb, na, h, w, d, k, m) = (if 48 ≤ c ∧ c ≤ 57 ∧ nb < 3 then some (3, ns, nb + 1, na, h, w, va_up d nb (c - 48), k, m) else none) := by
  simp only [rd]
  rw [if_neg (show ¬ pl = 0 by omega), if_neg (show ¬ pl = 1 by omega), if_pos s]
theorem rd_3 {c pl ns nb na : Nat} {h w d k m : Nat → Nat} (s : pl = 3) : rd c (pl, ns, nb, na, h, w, d, k, m) = (if c = 59 then some (4, ns, nb, na, h, w, d, k, m) else (if c = 44 ∧ nb < 3 then some (1, ns, nb, na, h, w, d, k, m) else none)) := by
  simp only [rd]
  rw [if_neg (show ¬ pl = 0 by omega), if_neg (show ¬ pl = 1 by omega), if_neg (show ¬ pl = 2 by omega), if_pos s]
theorem rd_4 {c pl ns nb na : Nat} {h w d k m : Nat → Nat} (s : pl = 4) : rd c (pl, ns, nb, na, h, w, d, k, m) = (if kd c ≤ 4 ∧ na < 5 then some (5, ns, nb, na, h, w, d, va_up k na (kd c), m) else none) := by
  simp only [rd]
  rw [if_neg (show ¬ pl = 0 by omega), if_neg (show ¬ pl = 1 by omega), if_neg (show ¬ pl = 2 by omega), if_neg (show ¬ pl = 3 by omega), if_pos s]
theorem rd_5 {c pl ns nb na : Nat} {h w d k m : Nat → Nat} (s : pl = 5) : rd c (pl, ns, nb, na, h, w, d, k, m) = (if 48 ≤ c ∧ c ≤ 57 ∧ na < 5 then some (6, ns, nb, na + 1, h, w, d, k, va_up m na (c - 48)) else none) := by
  simp only [rd]
  rw [if_neg (show ¬ pl = 0 by omega), if_neg (show ¬ pl = 1 by omega), if_neg (show ¬ pl = 2 by omega), if_neg (show ¬ pl = 3 by omega), if_neg (show ¬ pl = 4 by omega), if_pos s]
theorem rd_6 {c pl ns nb na : Nat} {h w d k m : Nat → Nat} (s : 5 < pl) : rd c (pl, ns, nb, na, h, w, d, k, m) = (if c = 44 ∧ na < 5 then some (4, ns, nb, na, h, w, d, k, m) else none) := by
  simp only [rd]
  rw [if_neg (show ¬ pl = 0 by omega), if_neg (show ¬ pl = 1 by omega), if_neg (show ¬ pl = 2 by omega), if_neg (show ¬ pl = 3 by omega), if_neg (show ¬ pl = 4 by omega), if_neg (show ¬ pl = 5 by omega)]
theorem rdI_le (pg : Nat → Nat) (R : RT) : ∀ n, (rdI pg R n).2.1 ≤ n
  | 0 => Nat.le_refl 0
  | n + 1 => by
    have ih := rdI_le pg R n
    simp only [rdI]
    split
    · split
      · exact Nat.le_refl _
      · exact Nat.le_succ n
    · omega
theorem rdB_p {R : RT} (h : rdB R) : R.1 ≤ 6 ∧ okB R.2.1 R.2.2.1 R.2.2.2.2.1 R.2.2.2.2.2.1 R.2.2.2.2.2.2.1 ∧ okK R.2.2.2.1 R.2.2.2.2.2.2.2.1 R.2.2.2.2.2.2.2.2 := by
  obtain ⟨pl, ns, nb, na, h_, w, d, k, m⟩ := R
  exact ⟨h.1, h.2.1, h.2.2.1⟩
