/-! the reference's ways: so many moves, then a row of figures -/
def pN (b : Nat) : Nat → Nat → Nat
  | 0, _ => 0
  | n + 1, r => 8 * pN b n (r / b) + (r % b + 1)
theorem pN_div {b n r : Nat} (h0 : 0 < b) (hb : b ≤ 6) : pN b (n + 1) r / 8 = pN b n (r / b) ∧ pN b (n + 1) r % 8 = r % b + 1 ∧ 0 < pN b (n + 1) r := by
  have := Nat.mod_lt r h0
  simp only [pN]
  omega
theorem pN_vld {na : Nat} (hb : na ≤ 5) : ∀ n r, vld na n (pN (na + 1) n r)
  | 0, _ => rfl
  | n + 1, r => by
    obtain ⟨h1, h2, h3⟩ := pN_div (b := na + 1) (n := n) (r := r) (by omega) (by omega)
    have := Nat.mod_lt r (show 0 < na + 1 by omega)
    refine Or.inr ⟨by omega, by omega, ?_⟩
    rw [h1]
    exact pN_vld hb n _
theorem pN_dl {b : Nat} (h0 : 0 < b) (hb : b ≤ 6) : ∀ n r, dl n (pN b n r) = n
  | 0, _ => rfl
  | n + 1, r => by
    obtain ⟨h1, h2, h3⟩ := pN_div (n := n) (r := r) h0 hb
    simp only [dl]
    rw [if_neg (by omega), h1, pN_dl h0 hb n]
theorem up_f {k m : Nat → Nat} {na : Nat} {s : S3} {n N : Nat} (hv : vld na n N) : ∀ j, vld na (n + j) N ∧ dl (n + j) N = dl n N ∧ prun k m na s (n + j) N = prun k m na s n N
  | 0 => ⟨hv, rfl, rfl⟩
  | j + 1 => by
    obtain ⟨h1, h2, h3⟩ := up_f (k := k) (m := m) (s := s) hv j
    exact ⟨vld_more h1, (dl_f h1).trans h2, (prun_f h1).trans h3⟩
theorem pN_5 {k m : Nat → Nat} {na : Nat} {s : S3} {n r : Nat} (hb : na ≤ 5) (hn : n ≤ 5) : vld na 5 (pN (na + 1) n r) ∧ dl 5 (pN (na + 1) n r) = n ∧ prun k m na s 5 (pN (na + 1) n r) = prun k m na s n (pN (na + 1) n r) := by
  have h := up_f (k := k) (m := m) (s := s) (pN_vld hb n r) (5 - n)
  rw [show n + (5 - n) = 5 by omega, pN_dl (by omega) (by omega)] at h
  exact h
theorem pN_lt {b : Nat} (h0 : 0 < b) (hb : b ≤ 6) : ∀ n n' r r', n < n' → pN b n r < pN b n' r'
  | 0, 0, _, _, h => absurd h (Nat.lt_irrefl 0)
  | 0, n' + 1, r, r', _ => (pN_div h0 hb).2.2
  | n + 1, 0, _, _, h => absurd h (Nat.not_lt_zero _)
  | n + 1, n' + 1, r, r', h => by
    have := pN_lt h0 hb n n' (r / b) (r' / b) (by omega)
    have h2 := Nat.mod_lt r h0
    simp only [pN]
    omega
theorem pN_slt {b : Nat} (h0 : 0 < b) (hb : b ≤ 6) : ∀ n r r', r < r' → r' < b ^ n → pN b n r < pN b n r'
  | 0, r, r', h, h' => by
    rw [Nat.pow_zero] at h'
    omega
  | n + 1, r, r', h, h' => by
    have h1 := Nat.div_le_div_right (c := b) (Nat.le_of_lt h)
    have h3 := Nat.mod_lt r h0
    have h4 := Nat.div_add_mod r b
    have h5 := Nat.div_add_mod r' b
    have h6 : r' / b < b ^ n := by
      rw [Nat.div_lt_iff_lt_mul h0, ← Nat.pow_succ]
      exact h'
    simp only [pN]
    by_cases e : r / b = r' / b
    · rw [e] at h4 ⊢
      omega
    · have h7 := pN_slt h0 hb n (r / b) (r' / b) (by omega) h6
      omega
theorem pN_all {na : Nat} : ∀ f N, vld na f N → ∃ n r, n ≤ f ∧ r < (na + 1) ^ n ∧ N = pN (na + 1) n r
  | 0, N, h => ⟨0, 0, Nat.le_refl 0, Nat.one_pos, h⟩
  | f + 1, N, h => by
    rcases h with h | ⟨h1, h2, h3⟩
    · exact ⟨0, 0, Nat.zero_le _, Nat.one_pos, h⟩
    · obtain ⟨n, r, e1, e2, e3⟩ := pN_all f (N / 8) h3
      have hq : ((na + 1) * r + (N % 8 - 1)) / (na + 1) = r := by
        rw [Nat.mul_add_div (by omega), Nat.div_eq_of_lt (by omega), Nat.add_zero]
      have hm : ((na + 1) * r + (N % 8 - 1)) % (na + 1) = N % 8 - 1 := by
        rw [Nat.mul_add_mod, Nat.mod_eq_of_lt (by omega)]
      refine ⟨n + 1, (na + 1) * r + (N % 8 - 1), by omega, ?_, ?_⟩
      · have h5 : (na + 1) * (r + 1) ≤ (na + 1) * (na + 1) ^ n := Nat.mul_le_mul_left _ e2
        rw [Nat.mul_add] at h5
        rw [Nat.pow_succ, Nat.mul_comm ((na + 1) ^ n)]
        omega
      · simp only [pN]
        rw [hq, hm, ← e3]
        omega
theorem few_y {k m : Nat → Nat} {na : Nat} {s : S3} {L n r : Nat} (hb : na ≤ 5) (hn : n ≤ 5) (hr : r < (na + 1) ^ n) (hL : L ≤ (prun k m na s n (pN (na + 1) n r)).1) (hno : ∀ n' r', (n' < n ∨ n' = n ∧ r' < r) → r' < (na + 1) ^ n' → ¬ L ≤ (prun k m na s n' (pN (na + 1) n' r')).1) : fewR k m na s L (some (pN (na + 1) n r)) := by
  obtain ⟨h1, h2, h3⟩ := pN_5 (k := k) (m := m) (s := s) (r := r) hb hn
  refine ⟨h1, by rw [h3]; exact hL, fun M hM hv => ?_⟩
  obtain ⟨n', r', e1, e2, e3⟩ := pN_all 5 M hv
  subst e3
  rw [(pN_5 hb e1).2.2]
  refine hno n' r' ?_ e2
  rcases Nat.lt_trichotomy n' n with z | z | z
  · exact Or.inl z
  · refine Or.inr ⟨z, ?_⟩
    subst z
    rcases Nat.lt_trichotomy r' r with y | y | y
    · exact y
    · subst y; exact absurd hM (Nat.lt_irrefl _)
    · exact absurd (pN_slt (by omega) (by omega) n' r r' y e2) (by omega)
  · have y := pN_lt (b := na + 1) (by omega) (by omega) n n' r r' z
    omega
theorem few_n {k m : Nat → Nat} {na : Nat} {s : S3} {L : Nat} (hb : na ≤ 5) (hno : ∀ n' r', n' < 6 → r' < (na + 1) ^ n' → ¬ L ≤ (prun k m na s n' (pN (na + 1) n' r')).1) : fewR k m na s L none := by
  intro N hv
  obtain ⟨n', r', e1, e2, e3⟩ := pN_all 5 N hv
  subst e3
  rw [(pN_5 hb e1).2.2]
  exact hno n' r' (by omega) e2
def mrn (k m : Nat → Nat) (na : Nat) (s : S3) (r n : Nat) : Nat → S3
  | 0 => s
  | i + 1 => stp k m na (figu r (na + 1) n i) (mrn k m na s r n i)
theorem mrn_prun {k m : Nat → Nat} {na : Nat} {s : S3} {r n : Nat} (hb : na ≤ 5) : ∀ i, i ≤ n → mrn k m na s r n i = prun k m na s i (pN (na + 1) i (r / (na + 1) ^ (n - i)))
  | 0, _ => rfl
  | i + 1, hi => by
    obtain ⟨h1, h2, h3⟩ := pN_div (b := na + 1) (n := i) (r := r / (na + 1) ^ (n - (i + 1))) (by omega) (by omega)
    simp only [mrn, prun]
    rw [if_neg (by omega), h1, h2, mrn_prun hb i (by omega), Nat.div_div_eq_div_mul, ← Nat.pow_succ, show (n - (i + 1)).succ = n - i by omega, Nat.add_sub_cancel, figu, show n - 1 - i = n - (i + 1) by omega]
theorem mrn_n {k m : Nat → Nat} {na : Nat} {s : S3} {r n : Nat} (hb : na ≤ 5) : mrn k m na s r n n = prun k m na s n (pN (na + 1) n r) := by
  rw [mrn_prun hb n (Nat.le_refl n), Nat.sub_self, Nat.pow_zero, Nat.div_one]
theorem ok_mrn {k m : Nat → Nat} {na : Nat} {s : S3} {r n : Nat} (h : okS s) : ∀ i, okS (mrn k m na s r n i)
  | 0 => h
  | i + 1 => ok_stp (ok_mrn h i)
theorem pN_divs {b : Nat} (h0 : 0 < b) (hb : b ≤ 6) : ∀ j n r, j ≤ n → pN b n r / 8 ^ j = pN b (n - j) (r / b ^ j)
  | 0, n, r, _ => by rw [Nat.pow_zero, Nat.pow_zero, Nat.div_one, Nat.div_one, Nat.sub_zero]
  | j + 1, n, r, h => by
    rw [Nat.pow_succ, ← Nat.div_div_eq_div_mul, pN_divs h0 hb j n r (by omega), show n - j = (n - (j + 1)) + 1 by omega, (pN_div h0 hb).1, Nat.div_div_eq_div_mul, ← Nat.pow_succ]
theorem pN_dig {b n r i : Nat} (h0 : 0 < b) (hb : b ≤ 6) (hi : i < n) : dig (pN b n r) n i = figu r b n i := by
  rw [dig, pN_divs h0 hb (n - 1 - i) n r (by omega), show n - (n - 1 - i) = i + 1 by omega, (pN_div h0 hb).2.1, Nat.add_sub_cancel, figu]
theorem tell_y0 {na n r wt : Nat} (hb : na ≤ 5) (hn : n ≤ 5) (hw : wt = 0) : n = tellF na wt (some (pN (na + 1) n r)) := by
  simp only [tellF]
  rw [if_pos hw, (pN_5 (k := fun _ => 0) (m := fun _ => 0) (s := (0, 0, 0)) hb hn).2.1]
theorem tell_y1 {na n r wt : Nat} (hb : na ≤ 5) (hn : n ≤ 5) (hw : 10 ≤ wt) (hi : wt - 10 < n) : (if figu r (na + 1) n (wt - 10) = na then 9 else figu r (na + 1) n (wt - 10)) = tellF na wt (some (pN (na + 1) n r)) := by
  simp only [tellF]
  rw [if_neg (show ¬ wt = 0 by omega), (pN_5 (k := fun _ => 0) (m := fun _ => 0) (s := (0, 0, 0)) hb hn).2.1, if_pos hi, pN_dig (by omega) (by omega) hi, mvc]
  have := figu_lt (r := r) (n := n) (i := wt - 10) (show 0 < na + 1 by omega)
  by_cases e : figu r (na + 1) n (wt - 10) = na
  · rw [if_pos e, if_neg (show ¬ figu r (na + 1) n (wt - 10) < na by omega)]
  · rw [if_neg e, if_pos (show figu r (na + 1) n (wt - 10) < na by omega)]
theorem tell_y2 {na n r wt : Nat} (hb : na ≤ 5) (hn : n ≤ 5) (hw : 10 ≤ wt) (hi : ¬ wt - 10 < n) : 4294967295 = tellF na wt (some (pN (na + 1) n r)) := by
  simp only [tellF]
  rw [if_neg (by omega), (pN_5 (k := fun _ => 0) (m := fun _ => 0) (s := (0, 0, 0)) hb hn).2.1, if_neg hi]
/-! odds: all that there are -/
def wts (c t : Nat) : Nat → Nat
  | 0 => 1
  | i + 1 => wts c t i * (if c / 2 ^ i % 2 = 1 then t else 10 - t)
def wsum (na t : Nat) : Nat → Nat
  | 0 => 0
  | c + 1 => wsum na t c + wts c t na
theorem chw_w {k m : Nat → Nat} {c t : Nat} {s : S3} : ∀ i, (chw k m c t s i).1 = wts c t i
  | 0 => rfl
  | i + 1 => by
    simp only [chw, wts, ← chw_w (k := k) (m := m) (s := s) i]
    split <;> rfl
theorem odA_w {k m : Nat → Nat} {na t : Nat} {s : S3} : ∀ c, odA k m na t s c = wsum na t c
  | 0 => rfl
  | c + 1 => by simp only [odA, wsum, odA_w c, chw_w]
theorem wsum_10 : ∀ na, na < 6 → ∀ t, t < 11 → wsum na t (2 ^ na) = 10 ^ na := by decide +kernel
theorem odA_10 {k m : Nat → Nat} {na t : Nat} {s : S3} (h : na ≤ 5) (ht : t ≤ 10) : odA k m na t s (2 ^ na) = 10 ^ na := by
  rw [odA_w, wsum_10 na (by omega) t (by omega)]
theorem odX_10 {k m : Nat → Nat} {na t L : Nat} {s : S3} (h : na ≤ 5) (ht : t ≤ 10) : odX k m na t s L = odU k m na t s L (2 ^ na) / Nat.gcd (10 ^ na) (odU k m na t s L (2 ^ na)) := by
  rw [odX, odA_10 h ht, Nat.gcd_comm]
theorem odY_10 {k m : Nat → Nat} {na t L : Nat} {s : S3} (h : na ≤ 5) (ht : t ≤ 10) : odY k m na t s L = 10 ^ na / Nat.gcd (10 ^ na) (odU k m na t s L (2 ^ na)) := by
  rw [odY, odA_10 h ht, Nat.gcd_comm]
theorem odU_10 {k m : Nat → Nat} {na t L : Nat} {s : S3} (h : na ≤ 5) (ht : t ≤ 10) : odU k m na t s L (2 ^ na) ≤ 10 ^ na := by
  rw [← odA_10 (k := k) (m := m) (s := s) h ht]
  exact odU_le
theorem p10 : ∀ n, n < 6 → 10 ^ n ≤ 100000 ∧ 0 < 10 ^ n := by decide
theorem p2 : ∀ n, n < 6 → 2 ^ n ≤ 32 ∧ 0 < 2 ^ n := by decide
theorem pnn : ∀ n, n < 6 → n ^ n ≤ 3125 := by decide
theorem p6 : ∀ b, b < 7 → ∀ n, n < 6 → b ^ n ≤ 7776 := by decide
theorem odU_c {k m : Nat → Nat} {na t L : Nat} {s : S3} : ∀ c c', c ≤ c' → odU k m na t s L c ≤ odU k m na t s L c' := by
  intro c c' h
  induction h with
  | refl => exact Nat.le_refl _
  | step _ ih => simp only [odU]; omega
theorem zQE' {x : Int32} {b : Nat} (hx : x.toInt < 0) (h : b < 2147483648) : x = nI b ↔ False := by
  rw [zEQ h]
  exact ⟨fun q => by omega, fun q => q.elim⟩
theorem kS_no {a : Nat} (h : a < 2147483648) : nI 4294967295 = nI a ↔ False := by
  exact zQE' (by decide) h
theorem kS_eq {a b : Nat} (ha : a < 2147483648 ∨ a = 4294967295) (hb : b < 2147483648) : nI a = nI b ↔ a = b := by
  rcases ha with h | h
  · exact cEQ h hb
  · rw [h, kS_no hb]
    exact ⟨fun q => q.elim, fun q => by omega⟩
theorem oddsA_N {nb na : Nat} {h w d k m : Nat → Nat} {s : S3} {i v : Nat} (hi : i < nb) (hn : nb ≤ 8) (hv : v ≤ 1) : oddsA nb na h w d k m s (nI i) (nI 5) (nI v) = nI (if v = 0 then odX k m na 5 s (leastT h w d i) else odY k m na 5 s (leastT h w d i)) := by
  have e5 : xn (nI 5) = 5 := xn_nI (by decide)
  simp only [oddsA]
  rw [if_pos (inR_nI hi hn), if_pos ⟨by rw [inR, nti (by decide)]; omega, by rw [inR, nti (by omega)]; omega⟩, e5, xn_nI (n := i) (by omega), nti (by omega)]
  by_cases e : v = 0
  · rw [if_pos e, if_pos (by omega)]
  · rw [if_neg e, if_neg (by omega)]
