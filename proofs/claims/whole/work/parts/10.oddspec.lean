/-! odds, seasons, guesses, as numbers -/
/-- the weight of those who come (bits c), and the sea behind them -/
def chw (k m : Nat → Nat) (c t : Nat) (s : S3) : Nat → Nat × S3
  | 0 => (1, s)
  | i + 1 => if c / 2 ^ i % 2 = 1 then ((chw k m c t s i).1 * t, hear (k i) (m i) (chw k m c t s i).2) else ((chw k m c t s i).1 * (10 - t), (chw k m c t s i).2)
def odU (k m : Nat → Nat) (na t : Nat) (s : S3) (L : Nat) : Nat → Nat
  | 0 => 0
  | c + 1 => odU k m na t s L c + (if L ≤ (chw k m c t s na).2.1 then (chw k m c t s na).1 else 0)
def odA (k m : Nat → Nat) (na t : Nat) (s : S3) : Nat → Nat
  | 0 => 0
  | c + 1 => odA k m na t s c + (chw k m c t s na).1
theorem ok_chw {k m : Nat → Nat} {c t : Nat} {s : S3} (h : okS s) : ∀ {i : Nat}, okS (chw k m c t s i).2
  | 0 => h
  | i + 1 => by
    simp only [chw]
    split
    · exact ok_hear (ok_chw h)
    · exact ok_chw h
theorem chw_le {k m : Nat → Nat} {c t : Nat} {s : S3} (ht : t ≤ 10) : ∀ {i : Nat}, (chw k m c t s i).1 ≤ 10 ^ i
  | 0 => Nat.le_refl 1
  | i + 1 => by
    have ih := chw_le (k := k) (m := m) (c := c) (s := s) ht (i := i)
    simp only [chw]
    rw [Nat.pow_succ]
    split
    · exact Nat.mul_le_mul ih ht
    · exact Nat.mul_le_mul ih (by omega)
theorem odU_le {k m : Nat → Nat} {na t : Nat} {s : S3} {L : Nat} : ∀ {c : Nat}, odU k m na t s L c ≤ odA k m na t s c
  | 0 => Nat.le_refl 0
  | c + 1 => by
    have ih := odU_le (k := k) (m := m) (na := na) (t := t) (s := s) (L := L) (c := c)
    simp only [odU, odA]
    split <;> omega
theorem odA_le {k m : Nat → Nat} {na t : Nat} {s : S3} (ht : t ≤ 10) (hna : na ≤ 5) : ∀ {c : Nat}, odA k m na t s c ≤ c * 100000
  | 0 => Nat.le_of_eq rfl
  | c + 1 => by
    have ih := odA_le (k := k) (m := m) (s := s) ht hna (c := c)
    have h1 := chw_le (k := k) (m := m) (c := c) (s := s) ht (i := na)
    have h2 : 10 ^ na ≤ 10 ^ 5 := Nat.pow_le_pow_right (by decide) hna
    simp only [odA]
    omega
theorem and_pow (c i : Nat) : c &&& 1 * 2 ^ i = (c / 2 ^ i % 2) * 2 ^ i := by
  rw [Nat.one_mul]
  apply Nat.eq_of_testBit_eq
  intro j
  rw [Nat.testBit_and, Nat.testBit_two_pow, Nat.testBit_mul_two_pow]
  by_cases h : i = j
  · subst h
    simp only [decide_true, Bool.and_true, Nat.le_refl, Nat.sub_self, Nat.testBit_zero, Bool.true_and]
    rw [Nat.testBit_eq_decide_div_mod_eq]
    simp
  · simp only [h, decide_false, Bool.and_false]
    by_cases h2 : i ≤ j
    · have h3 : (c / 2 ^ i % 2).testBit (j - i) = false := Nat.testBit_lt_two_pow (by have := Nat.pow_le_pow_right (show 0 < 2 by decide) (show 1 ≤ j - i by omega); omega)
      simp [h3]
    · simp [h2]
theorem bit_eq {c i : Nat} (hi : i < 30) : nI (c &&& 1 * 2 ^ i) = 0 ↔ ¬ c / 2 ^ i % 2 = 1 := by
  have hp : 2 ^ i ≤ 2 ^ 29 := Nat.pow_le_pow_right (by decide) (by omega)
  have hp0 := Nat.two_pow_pos i
  rw [and_pow]
  rcases (show c / 2 ^ i % 2 = 0 ∨ c / 2 ^ i % 2 = 1 by omega) with h | h
  · rw [h]; simp [nI_0]
  · rw [h, Nat.one_mul, i0_eq (by omega)]; omega
theorem odA_pos {k m : Nat → Nat} {t : Nat} {s : S3} (ht : t ≤ 10) (na : Nat) : 0 < odA k m na t s (2 ^ na) := by
  have key : ∀ n, n ≤ na → ∃ c, c < 2 ^ n ∧ 0 < (chw k m c t s n).1 ∧ ∀ j, n ≤ j → c / 2 ^ j = 0 := by
    intro n
    induction n with
    | zero => intro _; exact ⟨0, by decide, Nat.one_pos, fun j _ => Nat.zero_div _⟩
    | succ n ih =>
      intro hn
      obtain ⟨c, h1, h2, h3⟩ := ih (by omega)
      have hcong : ∀ (c' : Nat), (∀ j, j < n → c' / 2 ^ j % 2 = c / 2 ^ j % 2) → ∀ i, i ≤ n → chw k m c' t s i = chw k m c t s i := by
        intro c' hc i
        induction i with
        | zero => intro _; rfl
        | succ i ih2 => intro hi; simp only [chw]; rw [ih2 (by omega), hc i (by omega)]
      by_cases h10 : t = 10
      · refine ⟨c + 2 ^ n, by rw [Nat.pow_succ]; omega, ?_, ?_⟩
        · have hb : (c + 2 ^ n) / 2 ^ n % 2 = 1 := by
            rw [Nat.add_div_right _ (Nat.two_pow_pos n), Nat.div_eq_of_lt h1]
          have hc : ∀ j, j < n → (c + 2 ^ n) / 2 ^ j % 2 = c / 2 ^ j % 2 := by
            intro j hj
            rw [show 2 ^ n = 2 ^ j * (2 * 2 ^ (n - j - 1)) by rw [← Nat.mul_assoc, ← Nat.pow_succ, ← Nat.pow_add]; congr 1; omega, Nat.add_mul_div_left _ _ (Nat.two_pow_pos j)]
            omega
          simp only [chw, hb, if_true]
          rw [hcong _ hc n (Nat.le_refl n)]
          exact Nat.mul_pos h2 (by omega)
        · intro j hj
          exact Nat.div_eq_of_lt (Nat.lt_of_lt_of_le (by rw [Nat.pow_succ]; omega : c + 2 ^ n < 2 ^ (n + 1)) (Nat.pow_le_pow_right (by decide) hj))
      · refine ⟨c, by rw [Nat.pow_succ]; omega, ?_, fun j hj => h3 j (by omega)⟩
        have hb : ¬ c / 2 ^ n % 2 = 1 := by rw [h3 n (Nat.le_refl n)]; decide
        simp only [chw, hb, if_false]
        exact Nat.mul_pos h2 (by omega)
  obtain ⟨c, h1, h2, -⟩ := key na (Nat.le_refl na)
  have mono : ∀ n, c < n → 0 < odA k m na t s n := by
    intro n
    induction n with
    | zero => intro h; exact absurd h (Nat.not_lt_zero _)
    | succ n ih =>
      intro h
      simp only [odA]
      rcases Nat.lt_or_ge c n with q | q
      · have := ih q; omega
      · have e : c = n := by omega
        subst e; omega
  exact mono _ h1
/-- the draws -/
def lcg (n : Nat) : Nat := (1103515245 * n + 12345) % 2147483648
theorem lcg_lt (n : Nat) : lcg n < 2147483648 := Nat.mod_lt _ (by decide)
theorem lmask {n : Nat} (hn : n < 2 ^ 63) : lN n &&& 2147483647 = lN (n % 2147483648) := by
  apply Int64.toBitVec_inj.mp
  show (BitVec.ofNat 64 n) &&& (BitVec.ofNat 64 2147483647) = BitVec.ofNat 64 (n % 2147483648)
  apply BitVec.eq_of_toNat_eq
  rw [BitVec.toNat_and, BitVec.toNat_ofNat, BitVec.toNat_ofNat, BitVec.toNat_ofNat]
  rw [Nat.mod_eq_of_lt (show n < 2 ^ 64 by omega), show 2147483647 % 2 ^ 64 = 2 ^ 31 - 1 by decide, Nat.and_two_pow_sub_one_eq_mod, show (2 : Nat) ^ 31 = 2147483648 by decide]
  rw [Nat.mod_eq_of_lt (show n % 2147483648 < 2 ^ 64 by omega)]
theorem lcg_eq {n : Nat} (h : n < 2147483648) : (((1103515245 * (nI n).toInt64) + 12345) &&& 2147483647).toInt32 = nI (lcg n) := by
  rw [nI_l h, show (1103515245 : Int64) = lN 1103515245 from by decide, lN_mul, show (12345 : Int64) = lN 12345 from by decide, lN_add, lmask (by omega), lN_i]
  rfl
def sst (k m h w d : Nat → Nat) (na nb : Nat) (q : S3 × Nat × Nat) : S3 × Nat × Nat :=
  if lcg q.2.1 / 65536 % 4 = 0 then (thk q.1, lcg q.2.1, q.2.2 + nfl h w d (thk q.1).1 nb)
  else (hear (k (lcg (lcg q.2.1) / 65536 % na)) (m (lcg (lcg q.2.1) / 65536 % na)) q.1, lcg (lcg q.2.1), q.2.2 + nfl h w d (hear (k (lcg (lcg q.2.1) / 65536 % na)) (m (lcg (lcg q.2.1) / 65536 % na)) q.1).1 nb)
def srun (k m h w d : Nat → Nat) (na nb : Nat) (q : S3 × Nat × Nat) : Nat → S3 × Nat × Nat
  | 0 => q
  | n + 1 => sst k m h w d na nb (srun k m h w d na nb q n)
theorem srun_ok {k m h w d : Nat → Nat} {na nb : Nat} {q : S3 × Nat × Nat} (h1 : okS q.1) (h2 : q.2.1 < 2147483648) : ∀ n, okS (srun k m h w d na nb q n).1 ∧ (srun k m h w d na nb q n).2.1 < 2147483648
  | 0 => ⟨h1, h2⟩
  | n + 1 => by
    obtain ⟨i1, i2⟩ := srun_ok h1 h2 n
    simp only [srun, sst]
    split
    · exact ⟨ok_thk i1, lcg_lt _⟩
    · exact ⟨ok_hear i1, lcg_lt _⟩
/-- guesses: which manners agree (P), into which tides they fall (T) -/
def wbits (P : Nat → Bool) : Nat → Nat
  | 0 => 0
  | n + 1 => wbits P n ||| (if P n then 1 * 2 ^ n else 0)
def wcnt (P : Nat → Bool) (T : Nat → Nat) (t : Nat) : Nat → Nat
  | 0 => 0
  | n + 1 => wcnt P T t n + (if P n = true ∧ T n = t then 1 else 0)
def wun (c : Nat → Nat) : Nat → Nat
  | 0 => 0
  | n + 1 => wun c n + (if 0 < c n then 1 else 0)
def mP (fA fT : Nat → Nat) (a sn ka : Nat) (s : S3) (i : Nat) : Bool := decide (agr fA fT a (hear ka i s).1 sn)
def mT (ka : Nat) (s : S3) (i : Nat) : Nat := (hear ka i s).1
def gC (fA fT : Nat → Nat) (a sn ka : Nat) (s : S3) (n t : Nat) : Nat := wcnt (mP fA fT a sn ka s) (mT ka s) t n
def gLeft (fA fT : Nat → Nat) (a sn ka : Nat) (s : S3) : Nat := wbits (mP fA fT a sn ka s) 10
def gGain (fA fT : Nat → Nat) (a sn ka : Nat) (s : S3) : Nat := wun (gC fA fT a sn ka s 10) 21
def gWorst (fA fT : Nat → Nat) (a sn ka : Nat) (s : S3) : Nat := mx (gC fA fT a sn ka s 10) 21
def sndR (fA fT k : Nat → Nat) (sn : Nat) (s : S3) : Nat → Nat × Nat
  | 0 => (4294967295, 11)
  | i + 1 => if 0 < gWorst fA fT i sn (k i) s ∧ gWorst fA fT i sn (k i) s < (sndR fA fT k sn s i).2 then (i, gWorst fA fT i sn (k i) s) else sndR fA fT k sn s i
theorem up_ne {c : Nat → Nat} {t v j : Nat} (h : j ≠ t) : va_up c t v j = c j := by rw [va_up, if_neg h]
theorem up_eq {c : Nat → Nat} {t v : Nat} : va_up c t v t = v := by rw [va_up, if_pos rfl]
theorem wun_up {c : Nat → Nat} {t : Nat} : ∀ {n : Nat}, t < n → wun (va_up c t (c t + 1)) n = wun c n + (if c t + 1 = 1 then 1 else 0)
  | 0, h => absurd h (Nat.not_lt_zero t)
  | n + 1, h => by
    have out : ∀ j, j ≤ t → wun (va_up c t (c t + 1)) j = wun c j := by
      intro j
      induction j with
      | zero => intro _; rfl
      | succ j ih => intro hj; simp only [wun]; rw [ih (by omega), up_ne (by omega)]
    simp only [wun]
    rcases Nat.lt_or_ge t n with q | q
    · rw [wun_up q, up_ne (by omega)]; omega
    · have e : t = n := by omega
      subst e
      rw [out t (Nat.le_refl t), up_eq]
      split <;> split <;> split <;> omega
theorem mx_up {c : Nat → Nat} {t : Nat} : ∀ {n : Nat}, t < n → mx (va_up c t (c t + 1)) n = max (mx c n) (c t + 1)
  | 0, h => absurd h (Nat.not_lt_zero t)
  | n + 1, h => by
    have out : ∀ j, j ≤ t → mx (va_up c t (c t + 1)) j = mx c j := by
      intro j
      induction j with
      | zero => intro _; rfl
      | succ j ih => intro hj; simp only [mx]; rw [ih (by omega), up_ne (by omega)]
    simp only [mx]
    rcases Nat.lt_or_ge t n with q | q
    · rw [mx_up q, up_ne (by omega)]; omega
    · have e : t = n := by omega
      subst e
      rw [out t (Nat.le_refl t), up_eq]
      omega
theorem gC_no {fA fT : Nat → Nat} {a sn ka n : Nat} {s : S3} (h : ¬ agr fA fT a (hear ka n s).1 sn) : gC fA fT a sn ka s (n + 1) = gC fA fT a sn ka s n := by
  funext t
  simp [gC, wcnt, mP, h]
theorem gC_yes {fA fT : Nat → Nat} {a sn ka n : Nat} {s : S3} (h : agr fA fT a (hear ka n s).1 sn) : gC fA fT a sn ka s (n + 1) = va_up (gC fA fT a sn ka s n) (hear ka n s).1 (gC fA fT a sn ka s n (hear ka n s).1 + 1) := by
  have hp : mP fA fT a sn ka s n = true := decide_eq_true h
  funext t
  by_cases e : t = (hear ka n s).1
  · subst e
    rw [up_eq]
    show wcnt _ _ _ _ + (if mP fA fT a sn ka s n = true ∧ mT ka s n = (hear ka n s).1 then 1 else 0) = _
    rw [if_pos ⟨hp, rfl⟩]
    rfl
  · rw [up_ne e]
    show wcnt _ _ _ _ + (if mP fA fT a sn ka s n = true ∧ mT ka s n = t then 1 else 0) = _
    rw [if_neg (fun q => e q.2.symm)]
    rfl
theorem wcnt_le {P : Nat → Bool} {T : Nat → Nat} {t : Nat} : ∀ {n : Nat}, wcnt P T t n ≤ n
  | 0 => Nat.le_refl 0
  | n + 1 => by
    have := wcnt_le (P := P) (T := T) (t := t) (n := n)
    simp only [wcnt]
    split <;> omega
theorem wbits_lt {P : Nat → Bool} {n : Nat} : wbits P n < 2 ^ n := by
  induction n with
  | zero => exact Nat.one_pos
  | succ n ih =>
    simp only [wbits]
    have := Nat.two_pow_pos n
    refine Nat.or_lt_two_pow ?_ ?_
    · rw [Nat.pow_succ]; omega
    · rw [Nat.pow_succ]; split <;> omega
theorem gWorst_le {fA fT : Nat → Nat} {a sn ka : Nat} {s : S3} : gWorst fA fT a sn ka s ≤ 10 := mx_le (fun _ _ => wcnt_le)
theorem sndR_le {fA fT k : Nat → Nat} {sn : Nat} {s : S3} : ∀ {n : Nat}, (sndR fA fT k sn s n).2 ≤ 11
  | 0 => Nat.le_refl _
  | n + 1 => by
    have := sndR_le (fA := fA) (fT := fT) (k := k) (sn := sn) (s := s) (n := n)
    have h2 := gWorst_le (fA := fA) (fT := fT) (a := n) (sn := sn) (ka := k n) (s := s)
    simp only [sndR]
    split
    · show gWorst fA fT n sn (k n) s ≤ 11; omega
    · exact this
/-- Euclid's steps: a product that halves -/
theorem gcd_step {a b : Nat} (hb : 0 < b) (h : b ≤ a) : 2 * (b * (a % b)) ≤ a * b := by
  have h1 : 2 * (a % b) ≤ a := by
    have hm := Nat.mod_lt a hb
    have hd := Nat.div_add_mod a b
    have hq : 1 ≤ a / b := (Nat.le_div_iff_mul_le hb).mpr (by omega)
    have : b * 1 ≤ b * (a / b) := Nat.mul_le_mul_left b hq
    omega
  calc 2 * (b * (a % b)) = b * (2 * (a % b)) := by rw [Nat.mul_left_comm]
    _ ≤ b * a := Nat.mul_le_mul_left b h1
    _ = a * b := Nat.mul_comm b a
