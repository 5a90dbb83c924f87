theorem ordL_chk {U : List Nat → BT → BT} {n : Nat} : ∀ (q : List (Nat × List Nat)) (t : Nat) (L : List Nat) (B : BT), chkL n L q = true → q.length < t → ordL U n t L B = q.foldl (fun B p => U p.2 B) (U L B)
  | [], 0, _, _, _, h => absurd h (Nat.not_lt_zero _)
  | [], t + 1, L, B, h, _ => by
    simp only [chkL, beq_iff_eq] at h
    simp only [ordL, List.foldl_nil]
    rw [if_neg (by omega)]
  | p :: q, 0, _, _, _, h => absurd h (Nat.not_lt_zero _)
  | (r, M) :: q, t + 1, L, B, h, ht => by
    simp only [chkL, Bool.and_eq_true, decide_eq_true_eq, beq_iff_eq] at h
    simp only [ordL, List.foldl_cons]
    rw [if_pos h.1, h.2.1]
    exact ordL_chk q t M _ h.2.2 (by simp only [List.length_cons] at ht; omega)
theorem gap_oF {n : Nat} {W : Nat → Nat} (hW : ∀ r, oD n r n = none → W r = 0) : ∀ c a, gap n a c = true → oF W (a + c) = oF W a
  | 0, _, _ => rfl
  | c + 1, a, h => by
    simp only [gap, Bool.and_eq_true, Option.isNone_iff_eq_none] at h
    rw [show a + (c + 1) = (a + 1) + c by omega, gap_oF hW c (a + 1) h.2]
    simp only [oF]
    rw [hW a h.1, if_neg (Nat.not_lt_zero _)]
theorem lrun_cg {k m f g : Nat → Nat} {s : S3} : ∀ n, (∀ i, i < n → f i = g i) → lrun k m f s n = lrun k m g s n
  | 0, _ => rfl
  | n + 1, h => by
    simp only [lrun]
    rw [lrun_cg n (fun i hi => h i (by omega)), h n (by omega)]
def ordQ (na : Nat) (M : Nat × Nat) (B : BT) : Prop := 0 < M.2 ∧ 0 < B.1 ∧ B.1 ≤ 4 ∧ B.2.1 ≤ 9 ∧ B.2.2.1 ≤ 20 ∧ M.2 = 10000 * (B.1 - 1) + 100 * (9 - B.2.1) + B.2.2.1 + 1 ∧ ∀ i, i < na → figu M.1 na na i = B.2.2.2 i
theorem ord_step {k m h w d : Nat → Nat} {na nb : Nat} {s : S3} {r : Nat} {L : List Nat} {M : Nat × Nat} {B : BT} (oks : okS s) (hnb : nb ≤ 3) (hs : (oD na r na).isSome = true) (hd : digs na r L = true) (hq : (M.2 = 0 ∧ B.1 = 0) ∨ ordQ na M B) :
    ordQ na (if M.2 < oV k m h w d na nb s r then (r, oV k m h w d na nb s r) else M) (bup k m h w d na nb s L B) := by
  have hdg : ∀ i, i < na → figu r na na i = lf L i := by
    intro i hi
    simp only [digs, List.all_eq_true, List.mem_range, beq_iff_eq] at hd
    exact hd i hi
  have he := lrun_cg (k := k) (m := m) (s := s) na hdg
  obtain ⟨a, ha⟩ := Option.isSome_iff_exists.mp hs
  have hw : oV k m h w d na nb s r = 10000 * nfl h w d (lrun k m (lf L) s na).1 nb + 100 * (9 - (lrun k m (lf L) s na).2.1) + (lrun k m (lf L) s na).1 + 1 := by
    simp only [oV, ha, he]
  obtain ⟨o1, o2, o3⟩ := ok_lrun (k := k) (m := m) (ln := lf L) oks na
  have hf := nfl_le (h := h) (w := w) (d := d) (t := (lrun k m (lf L) s na).1) (n := nb)
  rw [hw]
  simp only [bup]
  generalize lrun k m (lf L) s na = e at *
  generalize nfl h w d e.1 nb = f at *
  obtain ⟨M1, M2⟩ := M
  obtain ⟨B1, B2, B3, B4⟩ := B
  simp only [ordQ] at hq ⊢
  by_cases hb : betr f e.2.1 e.1 B1 B2 B3
  · rw [if_pos hb, if_pos (by simp only [betr] at hb; omega)]
    refine ⟨by omega, by omega, by omega, by omega, by omega, ?_, hdg⟩
    show _ = 10000 * (f + 1 - 1) + 100 * (9 - e.2.1) + e.1 + 1
    omega
  · rw [if_neg hb]
    have hz : ¬ (M2 = 0 ∧ B1 = 0) := fun z => hb (Or.inl (by omega))
    have hq2 := hq.resolve_left hz
    rw [if_neg (by simp only [betr] at hb; omega)]
    exact hq2
theorem ord_fold {k m h w d : Nat → Nat} {na nb : Nat} {s : S3} (oks : okS s) (hnb : nb ≤ 3) : ∀ (q : List (Nat × List Nat)) (a : Nat) (B : BT), a ≤ na ^ na → chkR na a q = true → ((oF (oV k m h w d na nb s) a).2 = 0 ∧ B.1 = 0 ∧ q ≠ [] ∨ ordQ na (oF (oV k m h w d na nb s) a) B) → ordQ na (oF (oV k m h w d na nb s) (na ^ na)) (q.foldl (fun B p => bup k m h w d na nb s p.2 B) B)
  | [], a, B, ha, hc, hq => by
    simp only [chkR] at hc
    have e := gap_oF (W := oV k m h w d na nb s) (fun r z => by simp only [oV, z]) _ _ hc
    rw [show a + (na ^ na - a) = na ^ na by omega] at e
    rw [List.foldl_nil, e]
    rcases hq with z | z
    · exact absurd rfl z.2.2
    · exact z
  | (r, L) :: q, a, B, ha, hc, hq => by
    simp only [chkR, Bool.and_eq_true, decide_eq_true_eq] at hc
    obtain ⟨c1, c2, c3, c4, c5, c6⟩ := hc
    have e := gap_oF (W := oV k m h w d na nb s) (fun r z => by simp only [oV, z]) _ _ c3
    rw [show a + (r - a) = r by omega] at e
    rw [List.foldl_cons]
    refine ord_fold oks hnb q (r + 1) _ c2 c6 (Or.inr ?_)
    simp only [oF]
    rw [e]
    refine ord_step oks hnb c4 c5 ?_
    rcases hq with z | z
    · exact Or.inl ⟨z.1, z.2.1⟩
    · exact Or.inr z
theorem ordQ_n {k m h w d : Nat → Nat} {n nb r0 : Nat} {s : S3} {bg bt : Nat} {bs : Nat → Nat} {q : List (Nat × List Nat)} (hc : chkR n 0 ((r0, [0, 1, 2, 3, 4]) :: q) = true) (hl : chkL n [0, 1, 2, 3, 4] q = true) (hq : q.length < 120) (oks : okS s) (hnb : nb ≤ 3) : ordQ n (oF (oV k m h w d n nb s) (n ^ n)) (ordB k m h w d n nb s bg bt bs) := by
  rw [ordB, ordL_chk q 120 _ _ hl hq]
  have z := ord_fold (k := k) (m := m) (h := h) (w := w) (d := d) oks hnb (_ :: q) 0 (0, bg, bt, bs) (Nat.zero_le _) hc (Or.inl ⟨rfl, rfl, List.cons_ne_nil _ _⟩)
  rw [List.foldl_cons] at z
  exact z
theorem ordQ_of {k m h w d : Nat → Nat} {na nb : Nat} {s : S3} {bg bt : Nat} {bs : Nat → Nat} (oks : okS s) (hnb : nb ≤ 3) (h2 : 2 ≤ na) (h5 : na ≤ 5) : ordQ na (oF (oV k m h w d na nb s) (na ^ na)) (ordB k m h w d na nb s bg bt bs) := by
  rcases (show na = 2 ∨ na = 3 ∨ na = 4 ∨ na = 5 by omega) with rfl | rfl | rfl | rfl
  · exact ordQ_n chkR_2 chkL_2 (by decide) oks hnb
  · exact ordQ_n chkR_3 chkL_3 (by decide) oks hnb
  · exact ordQ_n chkR_4 chkL_4 (by decide) oks hnb
  · exact ordQ_n chkR_5 chkL_5 (by decide) oks hnb
theorem m2_le {x y : Int32} {a b : Nat} (hx : x = nI a - nI 1) (hy : y = nI b - nI 1) (ha : a < 1000000) (hb : b < 1000000) : x ≤ y ↔ a ≤ b := by
  rw [zzLE, hx, hy, pk_sub_toInt (by omega) (by decide), pk_sub_toInt (by omega) (by decide)]
  omega
theorem oV_lt {k m h w d : Nat → Nat} {na nb : Nat} {s : S3} {r : Nat} (oks : okS s) (hnb : nb ≤ 3) : oV k m h w d na nb s r ≤ 40000 := by
  obtain ⟨o1, o2, o3⟩ := ok_lrun (k := k) (m := m) (ln := figu r na na) oks na
  have hf := nfl_le (h := h) (w := w) (d := d) (t := (lrun k m (figu r na na) s na).1) (n := nb)
  simp only [oV]
  split <;> omega
theorem oF_le {W : Nat → Nat} {b : Nat} (h : ∀ r, W r ≤ b) : ∀ r, (oF W r).2 ≤ b
  | 0 => Nat.zero_le b
  | r + 1 => by
    simp only [oF]
    split
    · exact h r
    · exact oF_le h r
theorem oF_lt {W : Nat → Nat} : ∀ r, (oF W r).1 ≤ r
  | 0 => Nat.le_refl 0
  | r + 1 => by
    have := oF_lt (W := W) r
    simp only [oF]
    split
    · exact Nat.le_succ r
    · omega
theorem figu_lt {r b n i : Nat} (h : 0 < b) : figu r b n i < b := Nat.mod_lt _ h
theorem oD_no {n r i a : Nat} (h : oD n r i = some a) (h2 : (a / 2 ^ figu r n n i) &&& 1 = 1) : ∀ j, i < j → oD n r j = none
  | 0, hj => absurd hj (Nat.not_lt_zero _)
  | j + 1, hj => by
    rcases Nat.lt_or_ge i j with z | z
    · simp only [oD, oD_no h h2 j z]
    · have e : i = j := by omega
      subst e
      simp only [oD, h]
      rw [if_pos h2]
theorem oD_yes {n r i a : Nat} (h : oD n r i = some a) (h2 : ¬ (a / 2 ^ figu r n n i) &&& 1 = 1) : oD n r (i + 1) = some (a ||| 1 * 2 ^ figu r n n i) := by
  simp only [oD, h]
  rw [if_neg h2]
theorem met_lt {a q : Nat} (h : a < 32) (hq : q < 5) : a ||| 1 * 2 ^ q < 32 := by
  refine Nat.or_lt_two_pow (n := 5) h ?_
  have := Nat.pow_le_pow_right (show 0 < 2 by decide) (show q ≤ 4 by omega)
  omega
theorem figu_step {r b n no j : Nat} (h : no + 1 ≤ j) : r / b ^ (j - no - 1) / b = r / b ^ (j + 1 - no - 1) := by
  rw [Nat.div_div_eq_div_mul, ← Nat.pow_succ, show (j - no - 1).succ = j + 1 - no - 1 by omega]
