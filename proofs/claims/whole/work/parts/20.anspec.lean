/-! what each call answers -/
abbrev inR (x : Int32) (n : Nat) : Prop := 0 ≤ x.toInt ∧ x.toInt < (n : Int)
def xn (x : Int32) : Nat := x.toInt.toNat
theorem xnI {x : Int32} (h : 0 ≤ x.toInt) : x = nI (xn x) := by
  obtain ⟨n, hn, rfl⟩ := z_nat h
  rw [xn, nti hn]
  rfl
theorem xn_nI {n : Nat} (h : n < 2147483648) : xn (nI n) = n := by rw [xn, nti h]; rfl
theorem xn_eq {x : Int32} (h : 0 ≤ x.toInt) : (xn x : Int) = x.toInt := by rw [xn]; omega
def sandA (ns nb : Nat) (h w : Nat → Nat) (t : Nat) (x y : Int32) : Int32 := if inR x ns then (if y.toInt = 0 then nI (h (xn x)) else if y.toInt = 1 then nI (if mx h (xn x + 1) < t then 1 else 0) else if y.toInt = 2 then nI (bon w (xn x) nb) else -102) else -101
def boatA (nb : Nat) (h w d : Nat → Nat) (t : Nat) (x y : Int32) : Int32 := if inR x nb then (if y.toInt = 0 then nI (w (xn x)) else if y.toInt = 1 then nI (d (xn x)) else if y.toInt = 2 then nI (if leastT h w d (xn x) ≤ t then 1 else 0) else if y.toInt = 3 then nI (leastT h w d (xn x)) else -102) else -101
def askerA (na sn : Nat) (k m fA fT : Nat → Nat) (s : S3) (x y : Int32) : Int32 := if inR x na then (if y.toInt = 0 then nI (k (xn x)) else if y.toInt = 1 then nI (m (xn x)) else if y.toInt = 2 then nI (hear (k (xn x)) (m (xn x)) s).1 else if y.toInt = 3 then nI (hear (k (xn x)) (m (xn x)) s).2.1 else if y.toInt = 4 then nI (gLeft fA fT (xn x) sn (k (xn x)) s) else if y.toInt = 5 then nI (gGain fA fT (xn x) sn (k (xn x)) s) else -102) else -101
def asA (na : Nat) (k : Nat → Nat) (x y : Int32) : Int32 := if inR x na then (if inR y 5 then (if xn y = 0 ∨ xn y = k (xn x) ∨ xn y = 1 ∧ k (xn x) = 4 then nI (xn x) else -1) else -102) else -101
def askA (na tm : Nat) (k m : Nat → Nat) (s : S3) (x : Int32) : Int32 := if inR x na then (if tm < 999 then nI (hear (k (xn x)) (m (xn x)) s).1 else -104) else -101
def thankA (na tm : Nat) (s : S3) : Int32 := if 0 < na then (if tm < 999 then nI (thk s).1 else -104) else -103
def drawA (ns nb : Nat) (w : Nat → Nat) (x y : Int32) : Int32 := if inR x nb ∧ inR y ns then nI (w (xn x)) else -101
def heapA (ns : Nat) (h : Nat → Nat) (x y : Int32) : Int32 := if inR x ns then (if inR y 10 then nI (h (xn x)) else -102) else -101
def teachA (na : Nat) (k : Nat → Nat) (x y z : Int32) : Int32 := if inR x na then (if inR y 5 ∧ inR z 10 then nI (k (xn x)) else -102) else -101
abbrev oW (y : Int32) : Prop := inR y 3 ∨ (10 ≤ y.toInt ∧ y.toInt ≤ 14)
def orderA (na : Nat) (B : BT) (y : Int32) : Int32 := if oW y then (if 0 < na then nI (tellB na (xn y) B) else -103) else -102
abbrev fW (y : Int32) : Prop := y.toInt = 0 ∨ (10 ≤ y.toInt ∧ y.toInt ≤ 14)
def fewA (nb na fd : Nat) (r : Option Nat) (x y : Int32) : Int32 := if inR x nb then (if fW y then (if fd < 12 then nI (tellF na (xn y) r) else -103) else -102) else -101
def goodA (na : Nat) (s : S3) : Int32 := if 0 < na then nI (goodN s) else -103
def oddsA (nb na : Nat) (h w d k m : Nat → Nat) (s : S3) (x y z : Int32) : Int32 := if inR x nb then (if inR y 11 ∧ inR z 2 then (if z.toInt = 0 then nI (odX k m na (xn y) s (leastT h w d (xn x))) else nI (odY k m na (xn y) s (leastT h w d (xn x)))) else -102) else -101
def seeA (na sn : Nat) (x y : Int32) : Int32 := if inR x na then (if inR y 21 then (if sn < 6 then nI (sn + 1) else -104) else -102) else -101
def sendA (na sn : Nat) (k fA fT : Nat → Nat) (s : S3) : Int32 := if 0 < na then nI (sndR fA fT k sn s na).1 else -103
abbrev sW (x y z : Int32) : Prop := (1 ≤ x.toInt ∧ x.toInt ≤ 60) ∧ 0 ≤ y.toInt ∧ inR z 3
def seasA (na nb : Nat) (h w d k m : Nat → Nat) (s : S3) (x y z : Int32) : Int32 := if sW x y z then (if 0 < na then (if z.toInt = 0 then nI (srun k m h w d na nb (s, xn y, 0) (xn x)).2.2 else if z.toInt = 1 then nI (srun k m h w d na nb (s, xn y, 0) (xn x)).1.1 else nI (srun k m h w d na nb (s, xn y, 0) (xn x)).2.1) else -103) else -102
def imageA (na tm : Nat) : Int32 := if 0 < na then nI tm else -103
def countA (ns nb na tm sn pn sr fd : Nat) (h w d : Nat → Nat) (s : S3) (y : Int32) : Int32 :=
  if y.toInt = 0 then nI ns else if y.toInt = 1 then nI nb else if y.toInt = 2 then nI na else if y.toInt = 3 then nI s.1 else if y.toInt = 4 then nI s.2.1 else if y.toInt = 5 then nI s.2.2 else if y.toInt = 6 then nI (nfl h w d s.1 nb) else if y.toInt = 7 then nI (nre h s.1 ns) else if y.toInt = 8 then nI tm else if y.toInt = 9 then nI sn else if y.toInt = 10 then nI pn else if y.toInt = 11 then nI sr else if y.toInt = 12 then nI fd else -102
def mix1 (f : Nat → Int32) (h : Int64) : Nat → Int64
  | 0 => h
  | n + 1 => 31 * mix1 f h n + (f n).toInt64
def mix2 (f : Nat → Nat → Int32) (c : Nat) (h : Int64) : Nat → Int64
  | 0 => h
  | n + 1 => mix1 (f n) (mix2 f c h n) c
def mixB (f : Nat → Nat → Int32) (g : Nat → Nat → Int32) (h : Int64) : Nat → Int64
  | 0 => h
  | n + 1 => 31 * (31 * mix1 (f n) (mixB f g h n) 4 + (g n 0).toInt64) + (g n 1).toInt64
def mixO (na : Nat) (B : BT) (h : Int64) : Int64 := mix1 (fun v => nI (tellB na (10 + v) B)) (mix1 (fun v => nI (tellB na v B)) h 3) 5
def digA (ns nb na tm sn pn sr fd : Nat) (h w d k m fA fT pg : Nat → Nat) (s : S3) (B : BT) : Int64 :=
  mix1 (fun v => countA ns nb na tm sn pn sr fd h w d s (nI v)) (mix1 (fun i => nI (pg i)) ((fun z => if 0 < na then 31 * (31 * mixO na B z + (goodA na s).toInt64) + (sendA na sn k fA fT s).toInt64 else z)
    (mix2 (fun i v => askerA na sn k m fA fT s (nI i) (nI v)) 6 (mixB (fun i v => boatA nb h w d s.1 (nI i) (nI v)) (fun i v => oddsA nb na h w d k m s (nI i) (nI 5) (nI v)) (mix2 (fun i v => sandA ns nb h w s.1 (nI i) (nI v)) 3 1277 ns) nb) na)) pn) 13
abbrev lOk (x : Int32) (pn : Nat) : Prop := (1 ≤ x.toInt ∧ x.toInt ≤ 126) ∧ pn < 34
def letA (x : Int32) (pn : Nat) : Int32 := if 1 ≤ x.toInt ∧ x.toInt ≤ 126 then (if pn < 34 then nI (pn + 1) else -104) else -102
/-- what has been seen, as it may be -/
def okF (na sn : Nat) (fA fT : Nat → Nat) : Prop := sn ≤ 6 ∧ (∀ i, i < sn → fA i < 5) ∧ ∀ i, i < sn → fT i ≤ 20
theorem ordL_bd {k m h w d : Nat → Nat} {na nb : Nat} {s : S3} (oks : okS s) (hnb : nb ≤ 3) : ∀ t L (B : BT), (B.1 ≤ 4 ∧ (0 < B.1 → B.2.1 ≤ 9 ∧ B.2.2.1 ≤ 20)) → (0 < t ∨ 0 < B.1) → 0 < (ordL (bup k m h w d na nb s) na t L B).1 ∧ (ordL (bup k m h w d na nb s) na t L B).1 ≤ 4 ∧ (ordL (bup k m h w d na nb s) na t L B).2.1 ≤ 9 ∧ (ordL (bup k m h w d na nb s) na t L B).2.2.1 ≤ 20
  | 0, L, B, hB, ht => by
    have hp : 0 < B.1 := by omega
    exact ⟨hp, hB.1, (hB.2 hp).1, (hB.2 hp).2⟩
  | t + 1, L, B, hB, _ => by
    have h1 := bup_bd (k := k) (m := m) (h := h) (w := w) (d := d) (na := na) (L := L) oks hnb hB
    have h2 : 0 < (bup k m h w d na nb s L B).1 := by
      simp only [bup]
      split
      · exact Nat.succ_pos _
      · rename_i hb
        simp only [betr] at hb
        omega
    simp only [ordL]
    split
    · exact ordL_bd oks hnb t _ _ h1 (Or.inr h2)
    · exact ⟨h2, h1.1, (h1.2 h2).1, (h1.2 h2).2⟩
theorem ordB_bd {k m h w d : Nat → Nat} {na nb : Nat} {s : S3} {bg bt : Nat} {bs : Nat → Nat} (oks : okS s) (hnb : nb ≤ 3) (_ : 2 ≤ na) : 0 < (ordB k m h w d na nb s bg bt bs).1 ∧ (ordB k m h w d na nb s bg bt bs).1 ≤ 4 := by
  have := ordL_bd (k := k) (m := m) (h := h) (w := w) (d := d) (na := na) oks hnb 120 [0, 1, 2, 3, 4] (0, bg, bt, bs) ⟨Nat.zero_le _, fun q => absurd q (Nat.lt_irrefl 0)⟩ (Or.inl (by decide))
  exact ⟨this.1, this.2.1⟩
