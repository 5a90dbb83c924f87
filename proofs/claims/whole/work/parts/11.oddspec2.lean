def odX (k m : Nat → Nat) (na t : Nat) (s : S3) (L : Nat) : Nat := odU k m na t s L (2 ^ na) / Nat.gcd (odU k m na t s L (2 ^ na)) (odA k m na t s (2 ^ na))
def odY (k m : Nat → Nat) (na t : Nat) (s : S3) (L : Nat) : Nat := odA k m na t s (2 ^ na) / Nat.gcd (odU k m na t s L (2 ^ na)) (odA k m na t s (2 ^ na))
theorem gcd_out {a b n g : Nat} (hg : Nat.gcd a b = g) (hn : n ≤ 64) (hp : n = 0 ∨ (b ≤ a ∧ a * b * 2 ^ (n - 1) ≤ 16000000000000)) (h : 64 ≤ n ∨ b = 0) : a = g := by
  have hb : b = 0 := by
    rcases h with h | h
    · have e : n = 64 := by omega
      subst e
      rcases hp with hp | ⟨h1, h2⟩
      · omega
      · rcases Nat.eq_zero_or_pos b with q | q
        · exact q
        · have h3 : 1 ≤ a * b := Nat.mul_pos (by omega) q
          have h4 : 1 * 2 ^ 63 ≤ a * b * 2 ^ (64 - 1) := Nat.mul_le_mul_right _ h3
          omega
    · exact h
  rw [← hg, hb, Nat.gcd_zero_right]
theorem gcd_stepE {a b g : Nat} (hg : Nat.gcd a b = g) : Nat.gcd b (a % b) = g := by
  rw [← hg, Nat.gcd_comm a b, Nat.gcd_rec b a, Nat.gcd_comm]
theorem gcd_stepP {a b n : Nat} (hb0 : ¬ b = 0) (ha : a ≤ 4000000) (hb : b ≤ 4000000) (hp : n = 0 ∨ (b ≤ a ∧ a * b * 2 ^ (n - 1) ≤ 16000000000000)) : n + 1 = 0 ∨ (a % b ≤ b ∧ b * (a % b) * 2 ^ (n + 1 - 1) ≤ 16000000000000) := by
  have hm := Nat.mod_lt a (show 0 < b by omega)
  refine Or.inr ⟨by omega, ?_⟩
  rw [Nat.add_sub_cancel]
  rcases hp with hp | ⟨h1, h2⟩
  · subst hp
    rw [Nat.pow_zero, Nat.mul_one]
    exact Nat.le_trans (Nat.mul_le_mul hb (show a % b ≤ 4000000 by omega)) (by decide)
  · rcases Nat.eq_zero_or_pos n with e | e
    · subst e
      rw [Nat.pow_zero, Nat.mul_one]
      exact Nat.le_trans (Nat.mul_le_mul hb (show a % b ≤ 4000000 by omega)) (by decide)
    · have h3 := gcd_step (show 0 < b by omega) h1
      have e2 : 2 ^ n = 2 * 2 ^ (n - 1) := by rw [← Nat.pow_succ']; congr 1; omega
      rw [e2, ← Nat.mul_assoc]
      calc b * (a % b) * 2 * 2 ^ (n - 1) = (2 * (b * (a % b))) * 2 ^ (n - 1) := by rw [Nat.mul_comm (b * (a % b)) 2]
        _ ≤ a * b * 2 ^ (n - 1) := Nat.mul_le_mul_right _ h3
        _ ≤ _ := h2
theorem mx0 {c : Nat → Nat} (h : ∀ i, c i = 0) : ∀ {n : Nat}, mx c n = 0
  | 0 => rfl
  | n + 1 => by simp only [mx]; rw [mx0 h, h n]; rfl
theorem wun0 {c : Nat → Nat} (h : ∀ i, c i = 0) : ∀ {n : Nat}, wun c n = 0
  | 0 => rfl
  | n + 1 => by simp only [wun]; rw [wun0 h, h n]; rfl
theorem wb_yes {P : Nat → Bool} {n : Nat} (h : P n = true) : wbits P (n + 1) = wbits P n ||| 1 * 2 ^ n := by simp only [wbits]; rw [if_pos h]
theorem wb_no {P : Nat → Bool} {n : Nat} (h : P n = false) : wbits P (n + 1) = wbits P n := by simp only [wbits]; rw [h]; simp
