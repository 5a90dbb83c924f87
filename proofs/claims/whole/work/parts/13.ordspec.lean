/-! orders, as the class goes through them -/
def fl (F : Nat → Nat) : Nat → Nat
  | 0 => 0
  | q + 1 => if F (q + 1) < F q then fl F q else q + 1
def fr (F : Nat → Nat) (l : Nat) : Nat → Nat
  | 0 => 0
  | r + 1 => if l < r + 1 ∧ F (r + 1) < F l then fr F l r else r + 1
def sw (F : Nat → Nat) (i j : Nat) : Nat → Nat := va_up (va_up F i (F j)) j (F i)
def rv : Nat → (Nat → Nat) → Nat → Nat → (Nat → Nat)
  | 0, F, _, _ => F
  | k + 1, F, i, j => if i < j then rv k (sw F i j) (i + 1) (j - 1) else F
def nxtF (n : Nat) (F : Nat → Nat) : Nat → Nat := rv 5 (sw F (fl F (n - 1) - 1) (fr F (fl F (n - 1) - 1) (n - 1))) (fl F (n - 1)) (n - 1)
def lf (L : List Nat) (i : Nat) : Nat := L.getD i 0
def nxtL (n : Nat) (L : List Nat) : List Nat := if 0 < fl (lf L) (n - 1) then [nxtF n (lf L) 0, nxtF n (lf L) 1, nxtF n (lf L) 2, nxtF n (lf L) 3, nxtF n (lf L) 4] else L
def lrun (k m ln : Nat → Nat) (s : S3) : Nat → S3
  | 0 => s
  | i + 1 => hear (k (ln i)) (m (ln i)) (lrun k m ln s i)
abbrev betr (f g t b1 bg bt : Nat) : Prop := b1 < f + 1 ∨ (f + 1 = b1 ∧ (g < bg ∨ (g = bg ∧ bt < t)))
abbrev BT : Type := Nat × Nat × Nat × (Nat → Nat)
def bup (k m h w d : Nat → Nat) (na nb : Nat) (s : S3) (L : List Nat) (B : BT) : BT := if betr (nfl h w d (lrun k m (lf L) s na).1 nb) (lrun k m (lf L) s na).2.1 (lrun k m (lf L) s na).1 B.1 B.2.1 B.2.2.1 then (nfl h w d (lrun k m (lf L) s na).1 nb + 1, (lrun k m (lf L) s na).2.1, (lrun k m (lf L) s na).1, lf L) else B
def ordL (U : List Nat → BT → BT) (n : Nat) : Nat → List Nat → BT → BT
  | 0, _, B => B
  | t + 1, L, B => if 0 < fl (lf L) (n - 1) then ordL U n t (nxtL n L) (U L B) else U L B
def ordB (k m h w d : Nat → Nat) (na nb : Nat) (s : S3) (bg bt : Nat) (bs : Nat → Nat) : BT := ordL (bup k m h w d na nb s) na 120 [0, 1, 2, 3, 4] (0, bg, bt, bs)
def tellB (n wt : Nat) (B : BT) : Nat := if wt = 0 then B.1 - 1 else if wt = 1 then B.2.1 else if wt = 2 then B.2.2.1 else if 10 ≤ wt ∧ wt - 10 < n then B.2.2.2 (wt - 10) else 4294967295
theorem fl_le (F : Nat → Nat) : ∀ q, fl F q ≤ q
  | 0 => Nat.le_refl 0
  | q + 1 => by
    have := fl_le F q
    simp only [fl]
    split <;> omega
theorem fl_out {F : Nat → Nat} {q : Nat} (h0 : 0 < q) (h : F (q - 1) ≤ F q) : fl F q = q := by
  obtain ⟨p, rfl⟩ : ∃ p, q = p + 1 := ⟨q - 1, by omega⟩
  rw [Nat.add_sub_cancel] at h
  simp only [fl]
  rw [if_neg (by omega)]
theorem fl_in {F : Nat → Nat} {q : Nat} (h0 : 0 < q) (h : ¬ F (q - 1) ≤ F q) : fl F q = fl F (q - 1) := by
  obtain ⟨p, rfl⟩ : ∃ p, q = p + 1 := ⟨q - 1, by omega⟩
  rw [Nat.add_sub_cancel] at h ⊢
  simp only [fl]
  rw [if_pos (by omega)]
theorem fr_le (F : Nat → Nat) (l : Nat) : ∀ r, fr F l r ≤ r
  | 0 => Nat.le_refl 0
  | r + 1 => by
    have := fr_le F l r
    simp only [fr]
    split <;> omega
theorem fr_out {F : Nat → Nat} {l r : Nat} (h : r ≤ l ∨ F l ≤ F r) : fr F l r = r := by
  cases r with
  | zero => rfl
  | succ r =>
    simp only [fr]
    rw [if_neg (by omega)]
theorem fr_in {F : Nat → Nat} {l r : Nat} (h : l < r) (h2 : F r < F l) : fr F l r = fr F l (r - 1) := by
  obtain ⟨p, rfl⟩ : ∃ p, r = p + 1 := ⟨r - 1, by omega⟩
  simp only [fr, Nat.add_sub_cancel]
  rw [if_pos ⟨h, h2⟩]
theorem rv_out {f : Nat} {F : Nat → Nat} {i j : Nat} (h : j ≤ i) : rv f F i j = F := by
  cases f with
  | zero => rfl
  | succ f => simp only [rv]; rw [if_neg (by omega)]
theorem rv_in {f : Nat} {F : Nat → Nat} {i j : Nat} (h : i < j) (hf : 0 < f) : rv f F i j = rv (f - 1) (sw F i j) (i + 1) (j - 1) := by
  obtain ⟨p, rfl⟩ : ∃ p, f = p + 1 := ⟨f - 1, by omega⟩
  simp only [rv, Nat.add_sub_cancel]
  rw [if_pos h]
theorem sw_lt {n : Nat} {F : Nat → Nat} {i j : Nat} (h : ∀ q, q < n → F q < n) (hi : i < n) (hj : j < n) : ∀ q, q < n → sw F i j q < n := by
  intro q hq
  simp only [sw, va_up]
  split
  · exact h i hi
  · split
    · exact h j hj
    · exact h q hq
theorem rv_lt {n : Nat} : ∀ {f : Nat} {F : Nat → Nat} {i j : Nat}, (∀ q, q < n → F q < n) → j < n → ∀ q, q < n → rv f F i j q < n
  | 0, _, _, _, h, _ => h
  | f + 1, F, i, j, h, hj => by
    simp only [rv]
    split
    · exact rv_lt (sw_lt h (by omega) hj) (by omega)
    · exact h
theorem nxtF_lt {n : Nat} {F : Nat → Nat} (hn : 2 ≤ n) (h : ∀ q, q < n → F q < n) : ∀ q, q < n → nxtF n F q < n := by
  have h1 := fl_le F (n - 1)
  have h2 := fr_le F (fl F (n - 1) - 1) (n - 1)
  exact rv_lt (sw_lt h (by omega) (by omega)) (by omega)
theorem lf_5 {g : Nat → Nat} : ∀ i, i < 5 → g i = lf [g 0, g 1, g 2, g 3, g 4] i := by
  intro i hi
  rcases (show i = 0 ∨ i = 1 ∨ i = 2 ∨ i = 3 ∨ i = 4 by omega) with rfl | rfl | rfl | rfl | rfl <;> rfl
theorem nxtL_ok {n : Nat} {L : List Nat} : ∀ i, i < 5 → (if 0 < fl (lf L) (n - 1) then nxtF n (lf L) else lf L) i = lf (nxtL n L) i := by
  intro i hi
  simp only [nxtL]
  split
  · exact lf_5 i hi
  · rfl
theorem nxtL_lt {n : Nat} {L : List Nat} (hn : 2 ≤ n) (hn5 : n ≤ 5) (h : ∀ q, q < n → lf L q < n) : ∀ q, q < n → lf (nxtL n L) q < n := by
  intro q hq
  rw [← nxtL_ok q (by omega)]
  split
  · exact nxtF_lt hn h q hq
  · exact h q hq
theorem ok_lrun {k m ln : Nat → Nat} {s : S3} (h : okS s) : ∀ i, okS (lrun k m ln s i)
  | 0 => h
  | i + 1 => ok_hear (ok_lrun h i)
theorem m1_T {x : Int32} {b : Nat} (h : x = nI b - nI 1) (hb : b < 1000) : x.toInt = (b : Int) - 1 := by rw [h]; exact pk_sub_toInt (by omega) (by decide)
theorem m1_eq {x : Int32} {f b : Nat} (h : x = nI b - nI 1) (hf : f < 1000) (hb : b < 1000) : nI f = x ↔ f + 1 = b := by rw [zQE (by omega), m1_T h hb]; omega
theorem m1_le {x : Int32} {f b : Nat} (h : x = nI b - nI 1) (hf : f < 1000) (hb : b < 1000) : nI f ≤ x ↔ f + 1 ≤ b := by rw [zGE (by omega), m1_T h hb]; omega
theorem m1_lt {x : Int32} {b : Nat} (h : x = nI b - nI 1) (hb : b < 1000) : x < 0 ↔ b = 0 := by rw [z0_lt, m1_T h hb]; omega
theorem m1_dec {n : Nat} : nI n + Int32.ofInt (-1) = nI n - nI 1 := by rw [show Int32.ofInt (-1) = -nI 1 from by decide, ← Int32.sub_eq_add_neg]
theorem m1_of (f : Nat) : nI f = nI (f + 1) - nI 1 := by rw [nsub (by omega), Nat.add_sub_cancel]
theorem bup_bd {k m h w d : Nat → Nat} {na nb : Nat} {s : S3} {L : List Nat} {B : BT} (oks : okS s) (hnb : nb ≤ 3) (hB : B.1 ≤ 4 ∧ (0 < B.1 → B.2.1 ≤ 9 ∧ B.2.2.1 ≤ 20)) : (bup k m h w d na nb s L B).1 ≤ 4 ∧ (0 < (bup k m h w d na nb s L B).1 → (bup k m h w d na nb s L B).2.1 ≤ 9 ∧ (bup k m h w d na nb s L B).2.2.1 ≤ 20) := by
  have ho := ok_lrun (k := k) (m := m) (ln := lf L) oks na
  have hf := nfl_le (h := h) (w := w) (d := d) (t := (lrun k m (lf L) s na).1) (n := nb)
  simp only [bup]
  split
  · exact ⟨by simp only; omega, fun _ => ⟨ho.2.1, ho.1⟩⟩
  · exact hB
