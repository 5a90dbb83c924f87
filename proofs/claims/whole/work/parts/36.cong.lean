/-! the answers speak of the cells' ranges alone -/
theorem mx_cg {f g : Nat → Nat} : ∀ n, (∀ i, i < n → f i = g i) → mx f n = mx g n
  | 0, _ => rfl
  | n + 1, h => by simp only [mx]; rw [mx_cg n (fun i hi => h i (by omega)), h n (by omega)]
section CG
variable {ns nb na sn : Nat} {gh gw gd gk gm h w d k m : Nat → Nat} {s : S3} {t : Nat}
theorem okB_cg (ag : ag5 ns nb na gh gw gd gk gm h w d k m) (ok : okB ns nb h w d) : okB ns nb gh gw gd := by
  obtain ⟨a1, a2, a3, a4, a5⟩ := ag
  obtain ⟨e1, e2, e3, e4, e5⟩ := ok
  exact ⟨e1, e2, fun i hi => by rw [a1 i hi]; exact e3 i hi, fun b hb => by rw [a2 b hb]; exact e4 b hb, fun b hb => by rw [a3 b hb]; exact e5 b hb⟩
theorem okK_cg (ag : ag5 ns nb na gh gw gd gk gm h w d k m) (ok : okK na k m) : okK na gk gm := by
  obtain ⟨a1, a2, a3, a4, a5⟩ := ag
  obtain ⟨e1, e2, e3⟩ := ok
  exact ⟨e1, fun i hi => by rw [a4 i hi]; exact e2 i hi, fun b hb => by rw [a5 b hb]; exact e3 b hb⟩
theorem leastT_cg (ag : ag5 ns nb na gh gw gd gk gm h w d k m) (ok : okB ns nb h w d) {b : Nat} (hb : b < nb) : leastT gh gw gd b = leastT h w d b := by
  obtain ⟨a1, a2, a3, a4, a5⟩ := ag
  have hw := ok.2.2.2.1 b hb
  simp only [leastT]
  rw [a2 b hb, a3 b hb, a1 _ hw, mx_cg (w b + 1) (fun i hi => a1 i (by omega))]
theorem nfl_cg (ag : ag5 ns nb na gh gw gd gk gm h w d k m) (ok : okB ns nb h w d) : ∀ n, n ≤ nb → nfl gh gw gd t n = nfl h w d t n
  | 0, _ => rfl
  | n + 1, hn => by simp only [nfl]; rw [nfl_cg ag ok n (by omega), leastT_cg ag ok (by omega)]
theorem nre_cg (ag : ag5 ns nb na gh gw gd gk gm h w d k m) : ∀ n, n ≤ ns → nre gh t n = nre h t n
  | 0, _ => rfl
  | n + 1, hn => by simp only [nre]; rw [nre_cg ag n (by omega), mx_cg (n + 1) (fun i hi => ag.1 i (by omega))]
theorem bon_cg (ag : ag5 ns nb na gh gw gd gk gm h w d k m) {q : Nat} : ∀ n, n ≤ nb → bon gw q n = bon w q n
  | 0, _ => rfl
  | n + 1, hn => by simp only [bon]; rw [bon_cg ag n (by omega), ag.2.1 n (by omega)]
theorem xn_lt {x : Int32} {n : Nat} (q : inR x n) : xn x < n := by rw [xn]; omega
theorem sandA_cg (ag : ag5 ns nb na gh gw gd gk gm h w d k m) (x y : Int32) : sandA ns nb gh gw t x y = sandA ns nb h w t x y := by
  by_cases q : inR x ns
  · have hx := xn_lt q
    simp only [sandA]
    rw [ag.1 _ hx, mx_cg (xn x + 1) (fun i hi => ag.1 i (by omega)), bon_cg ag nb (Nat.le_refl _)]
  · simp only [sandA]
    rw [if_neg q, if_neg q]
theorem boatA_cg (ag : ag5 ns nb na gh gw gd gk gm h w d k m) (ok : okB ns nb h w d) (x y : Int32) : boatA nb gh gw gd t x y = boatA nb h w d t x y := by
  by_cases q : inR x nb
  · have hx := xn_lt q
    simp only [boatA]
    rw [ag.2.1 _ hx, ag.2.2.1 _ hx, leastT_cg ag ok hx]
  · simp only [boatA]
    rw [if_neg q, if_neg q]
theorem asA_cg (ag : ag5 ns nb na gh gw gd gk gm h w d k m) (x y : Int32) : asA na gk x y = asA na k x y := by
  by_cases q : inR x na
  · simp only [asA]; rw [ag.2.2.2.1 _ (xn_lt q)]
  · simp only [asA]; rw [if_neg q, if_neg q]
theorem askA_cg (ag : ag5 ns nb na gh gw gd gk gm h w d k m) {tm : Nat} (x : Int32) : askA na tm gk gm s x = askA na tm k m s x := by
  by_cases q : inR x na
  · simp only [askA]; rw [ag.2.2.2.1 _ (xn_lt q), ag.2.2.2.2 _ (xn_lt q)]
  · simp only [askA]; rw [if_neg q, if_neg q]
theorem drawA_cg (ag : ag5 ns nb na gh gw gd gk gm h w d k m) (x y : Int32) : drawA ns nb gw x y = drawA ns nb w x y := by
  by_cases q : inR x nb ∧ inR y ns
  · simp only [drawA]; rw [ag.2.1 _ (xn_lt q.1)]
  · simp only [drawA]; rw [if_neg q, if_neg q]
theorem heapA_cg (ag : ag5 ns nb na gh gw gd gk gm h w d k m) (x y : Int32) : heapA ns gh x y = heapA ns h x y := by
  by_cases q : inR x ns
  · simp only [heapA]; rw [ag.1 _ (xn_lt q)]
  · simp only [heapA]; rw [if_neg q, if_neg q]
theorem teachA_cg (ag : ag5 ns nb na gh gw gd gk gm h w d k m) (x y z : Int32) : teachA na gk x y z = teachA na k x y z := by
  by_cases q : inR x na
  · simp only [teachA]; rw [ag.2.2.2.1 _ (xn_lt q)]
  · simp only [teachA]; rw [if_neg q, if_neg q]
theorem lrun_kg (ag : ag5 ns nb na gh gw gd gk gm h w d k m) {ln : Nat → Nat} : ∀ n, (∀ i, i < n → ln i < na) → lrun gk gm ln s n = lrun k m ln s n
  | 0, _ => rfl
  | n + 1, hl => by
    simp only [lrun]
    rw [lrun_kg ag n (fun i hi => hl i (by omega)), ag.2.2.2.1 _ (hl n (by omega)), ag.2.2.2.2 _ (hl n (by omega))]
theorem bup_cg (ag : ag5 ns nb na gh gw gd gk gm h w d k m) (ok : okB ns nb h w d) {L : List Nat} (hL : ∀ q, q < na → lf L q < na) (B : BT) : bup gk gm gh gw gd na nb s L B = bup k m h w d na nb s L B := by
  simp only [bup]
  rw [lrun_kg ag na hL, nfl_cg ag ok nb (Nat.le_refl _)]
theorem ordL_cg {U U' : List Nat → BT → BT} {n : Nat} (h2 : 2 ≤ n) (h5 : n ≤ 5) (hU : ∀ L, (∀ q, q < n → lf L q < n) → ∀ B, U L B = U' L B) : ∀ t L B, (∀ q, q < n → lf L q < n) → ordL U n t L B = ordL U' n t L B
  | 0, _, _, _ => rfl
  | t + 1, L, B, hL => by
    simp only [ordL]
    rw [hU L hL B, ordL_cg h2 h5 hU t (nxtL n L) _ (nxtL_lt h2 h5 hL)]
theorem ordB_cg (ag : ag5 ns nb na gh gw gd gk gm h w d k m) (ok : okB ns nb h w d) (h2 : 2 ≤ na) (h5 : na ≤ 5) {bg bt : Nat} {bs : Nat → Nat} : ordB gk gm gh gw gd na nb s bg bt bs = ordB k m h w d na nb s bg bt bs := by
  rw [ordB, ordB]
  refine ordL_cg h2 h5 (fun L hL B => bup_cg ag ok hL B) 120 _ _ ?_
  intro q hq
  rcases (show q = 0 ∨ q = 1 ∨ q = 2 ∨ q = 3 ∨ q = 4 by omega) with rfl | rfl | rfl | rfl | rfl <;> exact hq
theorem orderA_cg (ag : ag5 ns nb na gh gw gd gk gm h w d k m) (ok : okB ns nb h w d) (h2 : 0 < na → 2 ≤ na) (h5 : na ≤ 5) {bg bt : Nat} {bs : Nat → Nat} (y : Int32) : orderA na (ordB gk gm gh gw gd na nb s bg bt bs) y = orderA na (ordB k m h w d na nb s bg bt bs) y := by
  by_cases q : 0 < na
  · rw [ordB_cg ag ok (h2 q) h5]
  · simp only [orderA]; rw [if_neg q, if_neg q]
theorem stp_cg (ag : ag5 ns nb na gh gw gd gk gm h w d k m) {mv : Nat} {s : S3} : stp gk gm na mv s = stp k m na mv s := by
  simp only [stp]
  by_cases q : mv < na
  · rw [if_pos q, if_pos q, ag.2.2.2.1 _ q, ag.2.2.2.2 _ q]
  · rw [if_neg q, if_neg q]
theorem prun_cg (ag : ag5 ns nb na gh gw gd gk gm h w d k m) : ∀ f N, prun gk gm na s f N = prun k m na s f N
  | 0, _ => rfl
  | f + 1, N => by simp only [prun]; rw [stp_cg ag, prun_cg ag f]
theorem fewR_cg (ag : ag5 ns nb na gh gw gd gk gm h w d k m) {L : Nat} {r : Option Nat} (q : fewR k m na s L r) : fewR gk gm na s L r := by
  cases r with
  | none => intro N hN; rw [prun_cg ag]; exact q N hN
  | some N => exact ⟨q.1, by rw [prun_cg ag]; exact q.2.1, fun M hM hv => by rw [prun_cg ag]; exact q.2.2 M hM hv⟩
theorem chw_cg (ag : ag5 ns nb na gh gw gd gk gm h w d k m) {c : Nat} : ∀ i, i ≤ na → chw gk gm c t s i = chw k m c t s i
  | 0, _ => rfl
  | i + 1, hi => by simp only [chw]; rw [chw_cg ag i (by omega), ag.2.2.2.1 i (by omega), ag.2.2.2.2 i (by omega)]
theorem odU_cg (ag : ag5 ns nb na gh gw gd gk gm h w d k m) {L : Nat} : ∀ c, odU gk gm na t s L c = odU k m na t s L c
  | 0 => rfl
  | c + 1 => by simp only [odU]; rw [odU_cg ag c, chw_cg ag na (Nat.le_refl _)]
theorem odA_cg (ag : ag5 ns nb na gh gw gd gk gm h w d k m) : ∀ c, odA gk gm na t s c = odA k m na t s c
  | 0 => rfl
  | c + 1 => by simp only [odA]; rw [odA_cg ag c, chw_cg ag na (Nat.le_refl _)]
theorem oddsA_cg (ag : ag5 ns nb na gh gw gd gk gm h w d k m) (ok : okB ns nb h w d) (x y z : Int32) : oddsA nb na gh gw gd gk gm s x y z = oddsA nb na h w d k m s x y z := by
  by_cases q : inR x nb
  · simp only [oddsA, odX, odY]
    rw [leastT_cg ag ok (xn_lt q), odU_cg ag, odA_cg ag]
  · simp only [oddsA]; rw [if_neg q, if_neg q]
theorem sst_cg (ag : ag5 ns nb na gh gw gd gk gm h w d k m) (ok : okB ns nb h w d) (h0 : 0 < na) (q : S3 × Nat × Nat) : sst gk gm gh gw gd na nb q = sst k m h w d na nb q := by
  have hm := Nat.mod_lt (lcg (lcg q.2.1) / 65536) h0
  simp only [sst]
  simp only [nfl_cg ag ok nb (Nat.le_refl _), ag.2.2.2.1 _ hm, ag.2.2.2.2 _ hm]
theorem srun_cg (ag : ag5 ns nb na gh gw gd gk gm h w d k m) (ok : okB ns nb h w d) (h0 : 0 < na) (q : S3 × Nat × Nat) : ∀ n, srun gk gm gh gw gd na nb q n = srun k m h w d na nb q n
  | 0 => rfl
  | n + 1 => by simp only [srun]; rw [srun_cg ag ok h0 q n, sst_cg ag ok h0]
theorem seasA_cg (ag : ag5 ns nb na gh gw gd gk gm h w d k m) (ok : okB ns nb h w d) (x y z : Int32) : seasA na nb gh gw gd gk gm s x y z = seasA na nb h w d k m s x y z := by
  by_cases q : 0 < na
  · simp only [seasA]; rw [srun_cg ag ok q]
  · simp only [seasA]; rw [if_neg q, if_neg q]
theorem countA_cg (ag : ag5 ns nb na gh gw gd gk gm h w d k m) (ok : okB ns nb h w d) {tm sn pn sr fd : Nat} (y : Int32) : countA ns nb na tm sn pn sr fd gh gw gd s y = countA ns nb na tm sn pn sr fd h w d s y := by
  simp only [countA]; rw [nfl_cg ag ok nb (Nat.le_refl _), nre_cg ag ns (Nat.le_refl _)]
/-- what was seen, in both -/
theorem mP_cg {gA gT fA fT : Nat → Nat} {sn : Nat} (as : ∀ i, i < sn → gA i = fA i ∧ gT i = fT i) {a ka : Nat} : mP gA gT a sn ka s = mP fA fT a sn ka s := by
  funext i
  have e : agr gA gT a (hear ka i s).1 sn ↔ agr fA fT a (hear ka i s).1 sn := by
    constructor
    · intro q j hj hz
      rw [← (as j hj).2]; exact q j hj (by rw [(as j hj).1]; exact hz)
    · intro q j hj hz
      rw [(as j hj).2]; exact q j hj (by rw [← (as j hj).1]; exact hz)
  simp only [mP]
  exact decide_eq_decide.mpr e
theorem gC_cg {gA gT fA fT : Nat → Nat} {sn : Nat} (as : ∀ i, i < sn → gA i = fA i ∧ gT i = fT i) {a ka : Nat} : gC gA gT a sn ka s = gC fA fT a sn ka s := by
  funext n u
  simp only [gC, mP_cg as]
theorem gWorst_cg {gA gT fA fT : Nat → Nat} {sn : Nat} (as : ∀ i, i < sn → gA i = fA i ∧ gT i = fT i) {a ka : Nat} : gWorst gA gT a sn ka s = gWorst fA fT a sn ka s := by
  unfold gWorst
  rw [gC_cg as]
theorem sndR_cg {gA gT fA fT : Nat → Nat} {sn : Nat} (ag : ag5 ns nb na gh gw gd gk gm h w d k m) (as : ∀ i, i < sn → gA i = fA i ∧ gT i = fT i) : ∀ n, n ≤ na → sndR gA gT gk sn s n = sndR fA fT k sn s n
  | 0, _ => rfl
  | n + 1, hn => by
    have e1 := sndR_cg ag as n (Nat.le_of_succ_le hn)
    have e2 : gWorst gA gT n sn (gk n) s = gWorst fA fT n sn (k n) s := by rw [ag.2.2.2.1 n hn]; exact gWorst_cg as
    unfold sndR
    rw [e1, e2]
theorem sendA_cg {gA gT fA fT : Nat → Nat} {sn : Nat} (ag : ag5 ns nb na gh gw gd gk gm h w d k m) (as : ∀ i, i < sn → gA i = fA i ∧ gT i = fT i) : sendA na sn gk gA gT s = sendA na sn k fA fT s := by
  simp only [sendA]; rw [sndR_cg ag as na (Nat.le_refl _)]
theorem askerA_cg {gA gT fA fT : Nat → Nat} {sn : Nat} (ag : ag5 ns nb na gh gw gd gk gm h w d k m) (as : ∀ i, i < sn → gA i = fA i ∧ gT i = fT i) (x y : Int32) : askerA na sn gk gm gA gT s x y = askerA na sn k m fA fT s x y := by
  by_cases q : inR x na
  · simp only [askerA, gLeft, gGain]; rw [ag.2.2.2.1 _ (xn_lt q), ag.2.2.2.2 _ (xn_lt q), mP_cg as, gC_cg as]
  · simp only [askerA]; rw [if_neg q, if_neg q]
theorem okF_cg {gA gT fA fT : Nat → Nat} {na sn : Nat} (as : ∀ i, i < sn → gA i = fA i ∧ gT i = fT i) (q : okF na sn fA fT) : okF na sn gA gT := ⟨q.1, fun i hi => by rw [(as i hi).1]; exact q.2.1 i hi, fun i hi => by rw [(as i hi).2]; exact q.2.2 i hi⟩
theorem digA_cg {gA gT fA fT pg : Nat → Nat} {sn tm pn sr fd : Nat} (ag : ag5 ns nb na gh gw gd gk gm h w d k m) (ok : okB ns nb h w d) (as : ∀ i, i < sn → gA i = fA i ∧ gT i = fT i) (h2 : 0 < na → 2 ≤ na) (h5 : na ≤ 5) {bg bt : Nat} {bs : Nat → Nat} : digA ns nb na tm sn pn sr fd gh gw gd gk gm gA gT pg s (ordB gk gm gh gw gd na nb s bg bt bs) = digA ns nb na tm sn pn sr fd h w d k m fA fT pg s (ordB k m h w d na nb s bg bt bs) := by
  have e1 : (fun i v => sandA ns nb gh gw s.1 (nI i) (nI v)) = fun i v => sandA ns nb h w s.1 (nI i) (nI v) := by funext i v; exact sandA_cg ag _ _
  have e2 : (fun i v => boatA nb gh gw gd s.1 (nI i) (nI v)) = fun i v => boatA nb h w d s.1 (nI i) (nI v) := by funext i v; exact boatA_cg ag ok _ _
  have e3 : (fun i v => oddsA nb na gh gw gd gk gm s (nI i) (nI 5) (nI v)) = fun i v => oddsA nb na h w d k m s (nI i) (nI 5) (nI v) := by funext i v; exact oddsA_cg ag ok _ _ _
  have e4 : (fun i v => askerA na sn gk gm gA gT s (nI i) (nI v)) = fun i v => askerA na sn k m fA fT s (nI i) (nI v) := by funext i v; exact askerA_cg ag as _ _
  have e5 : (fun v => countA ns nb na tm sn pn sr fd gh gw gd s (nI v)) = fun v => countA ns nb na tm sn pn sr fd h w d s (nI v) := by funext v; exact countA_cg ag ok _
  simp only [digA]
  rw [e1, e2, e3, e4, e5, sendA_cg ag as]
  by_cases q : 0 < na
  · rw [ordB_cg ag ok (h2 q) h5]
  · rw [if_neg q, if_neg q]
end CG
