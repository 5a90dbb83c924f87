/-! what holds of the class's cells and the reference's between two calls of the law -/
def IC (i hi sr fd pn ns nb na tm sn : Nat) (pg h w d k m fA fT : Nat → Nat) (s : S3) : Prop := okB ns nb h w d ∧ okK na k m ∧ okS s ∧ okF na sn fA fT ∧ tm ≤ 999 ∧ pn ≤ 34 ∧ (∀ j, j < pn → pg j ≤ 126) ∧ fd ≤ 12 ∧ hi ≤ 1 ∧ (0 < na → 2 ≤ na) ∧ sr ≤ i
def IG (ns nb na sn : Nat) (h w d k m fA fT h1 w1 d1 k1 m1 gs : Nat → Nat) : Prop := ag5 ns nb na h1 w1 d1 k1 m1 h w d k m ∧ ∀ j, j < sn → evn gs j = fA j ∧ odn gs j = fT j
def IKy (sr ns nb na kns knb kna ktm ksn kS : Nat) (d kh kw kd_ kk km kfA kfT kh1 kw1 kk1 km1 kgs : Nat → Nat) : Prop := kS = sr ∧ kns = ns ∧ knb = nb ∧ kna = na ∧ okB ns nb kh kw kd_ ∧ okK na kk km ∧ okF na ksn kfA kfT ∧ ktm ≤ 999 ∧ (∀ j, j < nb → kd_ j = d j) ∧ (∀ j, j < ns → kh1 j = kh j) ∧ (∀ j, j < nb → kw1 j = kw j) ∧ (∀ j, j < na → kk1 j = kk j) ∧ (∀ j, j < na → km1 j = km j) ∧ ∀ j, j < ksn → evn kgs j = kfA j ∧ odn kgs j = kfT j
def IK (hi sr ns nb na kns knb kna ktm ksn kS : Nat) (d kh kw kd_ kk km kfA kfT kh1 kw1 kk1 km1 kgs : Nat → Nat) (ks : S3) : Prop := okS ks ∧ (kS ≤ sr ∨ kS = 4294967295) ∧ (hi = 0 → kS ≠ sr) ∧ (hi = 1 → IKy sr ns nb na kns knb kna ktm ksn kS d kh kw kd_ kk km kfA kfT kh1 kw1 kk1 km1 kgs)
section INV
variable {i hi sr fd pn ns nb na tm sn kns knb kna ktm ksn kS : Nat} {pg h w d k m fA fT h1 w1 d1 k1 m1 gs kh kw kd_ kk km kfA kfT kh1 kw1 kk1 km1 kgs : Nat → Nat} {s ks : S3}
theorem IC.up (q : IC i hi sr fd pn ns nb na tm sn pg h w d k m fA fT s) : IC (i + 4) hi sr fd pn ns nb na tm sn pg h w d k m fA fT s := by
  obtain ⟨q1, q2, q3, q4, q5, q6, q7, q8, q9, q10, q11⟩ := q
  exact ⟨q1, q2, q3, q4, q5, q6, q7, q8, q9, q10, by omega⟩
theorem IC.letter (q : IC i hi sr fd pn ns nb na tm sn pg h w d k m fA fT s) (x : Int32) : IC (i + 4) hi sr fd (if lOk x pn then pn + 1 else pn) ns nb na tm sn (if lOk x pn then va_up pg pn (xn x) else pg) h w d k m fA fT s := by
  by_cases z : lOk x pn
  · rw [if_pos z, if_pos z]
    obtain ⟨q1, q2, q3, q4, q5, q6, q7, q8, q9, q10, q11⟩ := q
    have e := xn_eq (x := x) (by omega)
    refine ⟨q1, q2, q3, q4, q5, by omega, fun j hj => ?_, q8, q9, q10, by omega⟩
    by_cases y : j = pn
    · rw [y, up_eq]; omega
    · rw [up_ne y]; exact q7 j (by omega)
  · rw [if_neg z, if_neg z]; exact q.up
theorem IC.blank (q : IC i hi sr fd pn ns nb na tm sn pg h w d k m fA fT s) : IC (i + 4) hi sr fd 0 ns nb na tm sn pg h w d k m fA fT s := by
  obtain ⟨q1, q2, q3, q4, q5, q6, q7, q8, q9, q10, q11⟩ := q
  exact ⟨q1, q2, q3, q4, q5, by omega, fun j hj => absurd hj (Nat.not_lt_zero j), q8, q9, q10, by omega⟩
theorem IC.time {c : Prop} [Decidable c] {s' : S3} (q : IC i hi sr fd pn ns nb na tm sn pg h w d k m fA fT s) (hc : c → tm < 999) (hs : okS s') : IC (i + 4) hi sr fd pn ns nb na (if c then tm + 1 else tm) sn pg h w d k m fA fT (if c then s'.1 else s.1, if c then s'.2.1 else s.2.1, if c then s'.2.2 else s.2.2) := by
  obtain ⟨q1, q2, q3, q4, q5, q6, q7, q8, q9, q10, q11⟩ := q
  by_cases z : c
  · simp only [if_pos z]
    have := hc z
    exact ⟨q1, q2, hs, q4, by omega, q6, q7, q8, q9, q10, by omega⟩
  · simp only [if_neg z]
    exact ⟨q1, q2, q3, q4, q5, q6, q7, q8, q9, q10, by omega⟩
theorem IC.draw (q : IC i hi sr fd pn ns nb na tm sn pg h w d k m fA fT s) (x y : Int32) : IC (i + 4) hi sr fd pn ns nb na tm sn pg h (if inR x nb ∧ inR y ns then va_up w (xn x) (xn y) else w) d k m fA fT s := by
  by_cases z : inR x nb ∧ inR y ns
  · rw [if_pos z]
    obtain ⟨⟨p1, p2, p3, p4, p5⟩, q2, q3, q4, q5, q6, q7, q8, q9, q10, q11⟩ := q
    refine ⟨⟨p1, p2, p3, fun j hj => ?_, p5⟩, q2, q3, q4, q5, q6, q7, q8, q9, q10, by omega⟩
    by_cases e : j = xn x
    · rw [e, up_eq]; exact xn_lt z.2
    · rw [up_ne e]; exact p4 j hj
  · rw [if_neg z]; exact q.up
theorem IC.heap (q : IC i hi sr fd pn ns nb na tm sn pg h w d k m fA fT s) (x y : Int32) : IC (i + 4) hi sr fd pn ns nb na tm sn pg (if inR x ns ∧ inR y 10 then va_up h (xn x) (xn y) else h) w d k m fA fT s := by
  by_cases z : inR x ns ∧ inR y 10
  · rw [if_pos z]
    obtain ⟨⟨p1, p2, p3, p4, p5⟩, q2, q3, q4, q5, q6, q7, q8, q9, q10, q11⟩ := q
    refine ⟨⟨p1, p2, fun j hj => ?_, p4, p5⟩, q2, q3, q4, q5, q6, q7, q8, q9, q10, by omega⟩
    by_cases e : j = xn x
    · rw [e, up_eq]; have := xn_lt z.2; omega
    · rw [up_ne e]; exact p3 j hj
  · rw [if_neg z]; exact q.up
theorem IC.teach (q : IC i hi sr fd pn ns nb na tm sn pg h w d k m fA fT s) (x y v : Int32) : IC (i + 4) hi sr fd pn ns nb na tm sn pg h w d (if inR x na ∧ inR y 5 ∧ inR v 10 then va_up k (xn x) (xn y) else k) (if inR x na ∧ inR y 5 ∧ inR v 10 then va_up m (xn x) (xn v) else m) fA fT s := by
  by_cases z : inR x na ∧ inR y 5 ∧ inR v 10
  · rw [if_pos z, if_pos z]
    obtain ⟨q1, ⟨p1, p2, p3⟩, q3, q4, q5, q6, q7, q8, q9, q10, q11⟩ := q
    refine ⟨q1, ⟨p1, fun j hj => ?_, fun j hj => ?_⟩, q3, q4, q5, q6, q7, q8, q9, q10, by omega⟩
    · by_cases e : j = xn x
      · rw [e, up_eq]; have := xn_lt z.2.1; omega
      · rw [up_ne e]; exact p2 j hj
    · by_cases e : j = xn x
      · rw [e, up_eq]; have := xn_lt z.2.2; omega
      · rw [up_ne e]; exact p3 j hj
  · rw [if_neg z, if_neg z]; exact q.up
theorem IC.few {c : Prop} [Decidable c] (q : IC i hi sr fd pn ns nb na tm sn pg h w d k m fA fT s) (hc : c → fd < 12) : IC (i + 4) hi sr (if c then fd + 1 else fd) pn ns nb na tm sn pg h w d k m fA fT s := by
  obtain ⟨q1, q2, q3, q4, q5, q6, q7, q8, q9, q10, q11⟩ := q
  refine ⟨q1, q2, q3, q4, q5, q6, q7, ?_, q9, q10, by omega⟩
  by_cases z : c
  · rw [if_pos z]; exact hc z
  · rw [if_neg z]; exact q8
theorem IC.see (q : IC i hi sr fd pn ns nb na tm sn pg h w d k m fA fT s) (x y : Int32) : IC (i + 4) hi sr fd pn ns nb na tm (if inR x na ∧ inR y 21 ∧ sn < 6 then sn + 1 else sn) pg h w d k m (if inR x na ∧ inR y 21 ∧ sn < 6 then va_up fA sn (xn x) else fA) (if inR x na ∧ inR y 21 ∧ sn < 6 then va_up fT sn (xn y) else fT) s := by
  by_cases z : inR x na ∧ inR y 21 ∧ sn < 6
  · rw [if_pos z, if_pos z, if_pos z]
    obtain ⟨q1, q2, q3, ⟨p1, p2, p3⟩, q5, q6, q7, q8, q9, q10, q11⟩ := q
    have hx := xn_lt z.1
    have hy := xn_lt z.2.1
    have hk := q2.1
    refine ⟨q1, q2, q3, ⟨by omega, fun j hj => ?_, fun j hj => ?_⟩, q5, q6, q7, q8, q9, q10, by omega⟩
    · by_cases e : j = sn
      · rw [e, up_eq]; omega
      · rw [up_ne e]; exact p2 j (by omega)
    · by_cases e : j = sn
      · rw [e, up_eq]; omega
      · rw [up_ne e]; exact p3 j (by omega)
  · rw [if_neg z, if_neg z, if_neg z]; exact q.up
theorem IC.forget (q : IC i hi sr fd pn ns nb na tm sn pg h w d k m fA fT s) : IC (i + 4) hi sr fd pn ns nb na tm 0 pg h w d k m fA fT s := by
  obtain ⟨q1, q2, q3, q4, q5, q6, q7, q8, q9, q10, q11⟩ := q
  exact ⟨q1, q2, q3, ⟨by omega, fun j hj => absurd hj (Nat.not_lt_zero j), fun j hj => absurd hj (Nat.not_lt_zero j)⟩, q5, q6, q7, q8, q9, q10, by omega⟩
theorem up_both {f g : Nat → Nat} {n a v : Nat} (q : ∀ j, j < n → g j = f j) : ∀ j, j < n → va_up g a v j = va_up f a v j := by
  intro j hj
  by_cases e : j = a
  · rw [e, up_eq, up_eq]
  · rw [up_ne e, up_ne e]; exact q j hj
theorem IG.draw (q : IG ns nb na sn h w d k m fA fT h1 w1 d1 k1 m1 gs) (c : Prop) [Decidable c] (a v : Nat) : IG ns nb na sn h (if c then va_up w a v else w) d k m fA fT h1 (if c then va_up w1 a v else w1) d1 k1 m1 gs := by
  by_cases z : c
  · rw [if_pos z, if_pos z]; exact ⟨⟨q.1.1, up_both q.1.2.1, q.1.2.2.1, q.1.2.2.2.1, q.1.2.2.2.2⟩, q.2⟩
  · rw [if_neg z, if_neg z]; exact q
theorem IG.heap (q : IG ns nb na sn h w d k m fA fT h1 w1 d1 k1 m1 gs) (c : Prop) [Decidable c] (a v : Nat) : IG ns nb na sn (if c then va_up h a v else h) w d k m fA fT (if c then va_up h1 a v else h1) w1 d1 k1 m1 gs := by
  by_cases z : c
  · rw [if_pos z, if_pos z]; exact ⟨⟨up_both q.1.1, q.1.2.1, q.1.2.2.1, q.1.2.2.2.1, q.1.2.2.2.2⟩, q.2⟩
  · rw [if_neg z, if_neg z]; exact q
theorem IG.teach (q : IG ns nb na sn h w d k m fA fT h1 w1 d1 k1 m1 gs) (c : Prop) [Decidable c] (a v u : Nat) : IG ns nb na sn h w d (if c then va_up k a v else k) (if c then va_up m a u else m) fA fT h1 w1 d1 (if c then va_up k1 a v else k1) (if c then va_up m1 a u else m1) gs := by
  by_cases z : c
  · rw [if_pos z, if_pos z, if_pos z, if_pos z]; exact ⟨⟨q.1.1, q.1.2.1, q.1.2.2.1, up_both q.1.2.2.2.1, up_both q.1.2.2.2.2⟩, q.2⟩
  · rw [if_neg z, if_neg z, if_neg z, if_neg z]; exact q
theorem IG.see (q : IG ns nb na sn h w d k m fA fT h1 w1 d1 k1 m1 gs) (c : Prop) [Decidable c] (a v : Nat) : IG ns nb na (if c then sn + 1 else sn) h w d k m (if c then va_up fA sn a else fA) (if c then va_up fT sn v else fT) h1 w1 d1 k1 m1 (if c then va_up (va_up gs (2 * sn) a) (2 * sn + 1) v else gs) := by
  by_cases z : c
  · rw [if_pos z, if_pos z, if_pos z, if_pos z]
    refine ⟨q.1, fun j hj => ?_⟩
    simp only [evn, odn]
    by_cases e : j = sn
    · rw [e, up_ne (by omega), up_eq, up_eq, up_eq, up_eq]; exact ⟨rfl, rfl⟩
    · repeat rw [up_ne (by omega)]
      exact q.2 j (by omega)
  · rw [if_neg z, if_neg z, if_neg z, if_neg z]; exact q
theorem IG.forget (q : IG ns nb na sn h w d k m fA fT h1 w1 d1 k1 m1 gs) : IG ns nb na 0 h w d k m fA fT h1 w1 d1 k1 m1 gs := ⟨q.1, fun j hj => absurd hj (Nat.not_lt_zero j)⟩
theorem IC.shore {R : RT} {y1 y2 : Nat → Nat} (q : IC i hi sr fd pn ns nb na tm sn pg h w d k m fA fT s) (hR : rdB R) (h2 : 2 ≤ R.2.2.2.1) : IC (i + 4) 0 (sr + 1) fd 0 R.2.1 R.2.2.1 R.2.2.2.1 0 0 pg R.2.2.2.2.1 R.2.2.2.2.2.1 R.2.2.2.2.2.2.1 R.2.2.2.2.2.2.2.1 R.2.2.2.2.2.2.2.2 y1 y2 (0, 0, 0) := by
  obtain ⟨q1, q2, q3, q4, q5, q6, q7, q8, q9, q10, q11⟩ := q
  obtain ⟨_, p1, p2⟩ := rdB_p hR
  exact ⟨p1, p2, ⟨by decide, by decide, by decide⟩, ⟨by omega, fun j hj => absurd hj (Nat.not_lt_zero j), fun j hj => absurd hj (Nat.not_lt_zero j)⟩, by omega, by omega, fun j hj => absurd hj (Nat.not_lt_zero j), q8, by omega, fun _ => h2, by omega⟩
theorem IG.shore {ns' nb' na' : Nat} {g1 g2 g3 g4 g5 f1 f2 f3 f4 f5 y1 y2 : Nat → Nat} (ag : ag5 ns' nb' na' g1 g2 g3 g4 g5 f1 f2 f3 f4 f5) : IG ns' nb' na' 0 f1 f2 f3 f4 f5 y1 y2 g1 g2 g3 g4 g5 gs := ⟨ag, fun j hj => absurd hj (Nat.not_lt_zero j)⟩
theorem IK.shore {ns' nb' na' : Nat} {d' : Nat → Nat} (q : IK hi sr ns nb na kns knb kna ktm ksn kS d kh kw kd_ kk km kfA kfT kh1 kw1 kk1 km1 kgs ks) (hs : sr < 100000) : IK 0 (sr + 1) ns' nb' na' kns knb kna ktm ksn kS d' kh kw kd_ kk km kfA kfT kh1 kw1 kk1 km1 kgs ks := by
  obtain ⟨q1, q2, q3, q4⟩ := q
  exact ⟨q1, by omega, fun _ => by omega, fun z => absurd z (by decide)⟩
theorem IK.image (q : IC i hi sr fd pn ns nb na tm sn pg h w d k m fA fT s) (g : IG ns nb na sn h w d k m fA fT h1 w1 d1 k1 m1 gs) : IK 1 sr ns nb na ns nb na tm sn sr d h w d k m fA fT h1 w1 k1 m1 gs s := by
  obtain ⟨q1, q2, q3, q4, q5, q6, q7, q8, q9, q10, q11⟩ := q
  obtain ⟨⟨a1, a2, a3, a4, a5⟩, a6⟩ := g
  exact ⟨q3, Or.inl (Nat.le_refl _), fun z => absurd z (by decide), fun _ => ⟨rfl, rfl, rfl, rfl, q1, q2, q4, q5, fun _ _ => rfl, a1, a2, a4, a5, a6⟩⟩
theorem IC.image (q : IC i hi sr fd pn ns nb na tm sn pg h w d k m fA fT s) : IC (i + 4) 1 sr fd pn ns nb na tm sn pg h w d k m fA fT s := by
  obtain ⟨q1, q2, q3, q4, q5, q6, q7, q8, q9, q10, q11⟩ := q
  exact ⟨q1, q2, q3, q4, q5, q6, q7, q8, by omega, q10, by omega⟩
theorem IC.restore (q : IC i hi sr fd pn ns nb na tm sn pg h w d k m fA fT s) (oks : okS ks) (y : IKy sr ns nb na kns knb kna ktm ksn kS d kh kw kd_ kk km kfA kfT kh1 kw1 kk1 km1 kgs) : IC (i + 4) hi sr fd pn ns nb na ktm ksn pg kh kw kd_ kk km kfA kfT ks := by
  obtain ⟨q1, q2, q3, q4, q5, q6, q7, q8, q9, q10, q11⟩ := q
  obtain ⟨y1, y2, y3, y4, y5, y6, y7, y8, y9, y10, y11, y12, y13, y14⟩ := y
  exact ⟨y5, y6, oks, y7, y8, q6, q7, q8, q9, q10, by omega⟩
theorem IG.restore (g : IG ns nb na sn h w d k m fA fT h1 w1 d1 k1 m1 gs) (y : IKy sr ns nb na kns knb kna ktm ksn kS d kh kw kd_ kk km kfA kfT kh1 kw1 kk1 km1 kgs) : IG ns nb na ksn kh kw kd_ kk km kfA kfT kh1 kw1 d1 kk1 km1 kgs := by
  obtain ⟨y1, y2, y3, y4, y5, y6, y7, y8, y9, y10, y11, y12, y13, y14⟩ := y
  exact ⟨⟨y10, y11, fun j hj => by rw [g.1.2.2.1 j hj, y9 j hj], y12, y13⟩, y14⟩
theorem IK.restore (q : IK hi sr ns nb na kns knb kna ktm ksn kS d kh kw kd_ kk km kfA kfT kh1 kw1 kk1 km1 kgs ks) : IK hi sr ns nb na kns knb kna ktm ksn kS kd_ kh kw kd_ kk km kfA kfT kh1 kw1 kk1 km1 kgs ks := by
  obtain ⟨q1, q2, q3, q4⟩ := q
  refine ⟨q1, q2, q3, fun z => ?_⟩
  obtain ⟨y1, y2, y3, y4, y5, y6, y7, y8, y9, y10, y11, y12, y13, y14⟩ := q4 z
  exact ⟨y1, y2, y3, y4, y5, y6, y7, y8, fun _ _ => rfl, y10, y11, y12, y13, y14⟩
end INV
theorem i_is {x y : Int32} (e : x = y) : x = y ↔ True := ⟨fun _ => trivial, fun _ => e⟩
theorem l_is {x y : Int64} (e : x = y) : lg_cmp x y = 0 ↔ True := by
  subst e
  refine ⟨fun _ => trivial, fun _ => ?_⟩
  unfold lg_cmp
  rw [if_neg (by rw [gt_iff_lt, Int64.lt_iff_toInt_lt]; omega), if_pos rfl]
theorem end_gt {i L : Nat} (hi : i < 100000) (hL : L ≤ 2048) : nI L - nI 4 < nI i ↔ L < i + 4 := by
  rw [zLT (by omega), pk_sub_toInt (by omega) (by decide)]
  omega
