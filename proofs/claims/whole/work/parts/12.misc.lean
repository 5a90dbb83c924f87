set_option maxHeartbeats 4000000 in
set_option maxRecDepth 100000 in
theorem c_J7_fill_53178 (l : Launch) (D : va_G) (cy : ClassId) (q : Nat) (n : Nat) (v : Nat) (f : Nat → Nat) (hn : n < 2147483648) : Ct (σ := Unit) l D cy yJ7_fill_53178 cJ7_fill_53178 4 none { frames := 0, cells := 0, slots := 0, locals := 0 } [.ref q, .int (nI v)] [(q, arC cy n f)] (fun _ => True) (fun _ => none) (fun _ => [(q, arC cy n (fun _ => v))]) := by
  refine Ct_ofV (by decide) (lb rfl) [(0, .ref q), (1, .int (nI v))] rfl (fun G hM hret => ?_)
  refine j_iconst (pc := 0) hM (v := nI 0) dJ7_fill_53178_0 (by decide) ?_
  refine j_istore_n (pc := 1) hM [(2, .int (nI 0)), (0, .ref q), (1, .int (nI v))] dJ7_fill_53178_1 rfl (by decide) rfl ?_
  refine j_aload_n (pc := 2) hM dJ7_fill_53178_2 rfl 1 rfl ?_
  refine j_alen (pc := 3) hM (v := nI n) 0 rfl rfl dJ7_fill_53178_3 ?_
  refine j_istore_n (pc := 4) hM [(3, .int (nI n)), (2, .int (nI 0)), (0, .ref q), (1, .int (nI v))] dJ7_fill_53178_4 rfl (by decide) rfl ?_
  have L5 : ∀ (n5 : Nat) (i : Nat) (F : Nat → Nat), (i ≤ n) → (∀ j, j < i → F j = v) → (n - i) < n5 → G [(q, arC cy n F)] [(0, .ref q), (1, .int (nI v)), (2, .int (nI i)), (3, .int (nI n))] 5 [] := by
    intro n5
    induction n5 with
    | zero => intro i F hi hF hm5; exact absurd hm5 (Nat.not_lt_zero _)
    | succ n5 ih5 =>
      intro i F hi hF hm5
      refine j_iload_n (pc := 5) hM dJ7_fill_53178_5 rfl 2 rfl ?_
      refine j_iload_n (pc := 6) hM dJ7_fill_53178_6 rfl 3 rfl ?_
      refine j_icmp_ge (pc := 7) hM 20 dJ7_fill_53178_7 (by decide) (cLE (by omega) (by omega)) (fun c7 => ?_) (fun c7 => ?_)
      · skip
        refine j_arN (pc := 20) hM [(q, arC cy n (fun _ => v))] 0 rfl (fun j hj => hF j (by omega)) rfl ?_
        exact hret () _ _ _ trivial rfl rfl dJ7_fill_53178_20
      · skip
        refine j_aload_n (pc := 10) hM dJ7_fill_53178_10 rfl 0 rfl ?_
        refine j_iload_n (pc := 11) hM dJ7_fill_53178_11 rfl 2 rfl ?_
        refine j_iload_n (pc := 12) hM dJ7_fill_53178_12 rfl 1 rfl ?_
        refine j_stN (pc := 13) hM [(q, arC cy n (va_up F i v))] 0 rfl (by omega) (by omega) rfl dJ7_fill_53178_13 ?_
        refine j_iinc (pc := 14) hM (n' := 2) [(2, .int (nI (i + 1))), (0, .ref q), (1, .int (nI v)), (3, .int (nI n))] dJ7_fill_53178_14 rfl (nI_add _ 1) (by decide) rfl ?_
        refine j_goto (pc := 17) hM 5 dJ7_fill_53178_17 (by decide) ?_
        refine j_lv (pc := 5) hM [1, 2, 0, 3] rfl ?_
        exact ih5 (i + 1) (va_up F i v) (by omega) (fun j hj => by rcases Nat.lt_or_ge j i with z | z; rw [up_ne (by omega)]; exact hF j z; rw [show j = i by omega, up_eq]) (by omega)
  refine j_lv (pc := 5) hM [2, 3, 1, 0] rfl ?_
  exact L5 _ 0 f (by omega) (fun j hj => absurd hj (Nat.not_lt_zero j)) (Nat.lt_succ_self _)
set_option maxHeartbeats 4000000 in
set_option maxRecDepth 100000 in
theorem c_X0_greatestCommon (l : Launch) (D : va_G) (cy : ClassId) (a0 : Nat) (b0 : Nat) (ha : a0 ≤ 4000000) (hb : b0 ≤ 4000000) : Ct (σ := Unit) l D cy yX0_greatestCommon cX0_greatestCommon 6 (some .int) { frames := 0, cells := 0, slots := 0, locals := 0 } [.int (nI a0), .int (nI b0)] [] (fun _ => True) (fun _ => some (.int (nI (Nat.gcd a0 b0)))) (fun _ => []) := by
  refine Ct_ofI (by decide) (lb rfl) [(0, .int (nI a0)), (1, .int (nI b0))] rfl (fun G hM hret => ?_)
  refine j_iload_n (pc := 0) hM dX0_greatestCommon_0 rfl 0 rfl ?_
  refine j_istore_n (pc := 1) hM [(2, .int (nI a0)), (0, .int (nI a0)), (1, .int (nI b0))] dX0_greatestCommon_1 rfl (by decide) rfl ?_
  refine j_iload_n (pc := 2) hM dX0_greatestCommon_2 rfl 2 rfl ?_
  refine j_istore_n (pc := 3) hM [(3, .int (nI b0)), (2, .int (nI a0)), (0, .int (nI a0)), (1, .int (nI b0))] dX0_greatestCommon_3 rfl (by decide) rfl ?_
  refine j_iconst (pc := 4) hM (v := nI 0) dX0_greatestCommon_4 (by decide) ?_
  refine j_istore (pc := 5) hM [(4, .int (nI 0)), (3, .int (nI b0)), (2, .int (nI a0)), (0, .int (nI a0)), (1, .int (nI b0))] dX0_greatestCommon_5 (by decide) rfl ?_
  have L7 : ∀ (n7 : Nat) (a : Nat) (b : Nat) (n : Nat), (Nat.gcd a b = Nat.gcd a0 b0) → (n ≤ 64) → (a ≤ 4000000) → (b ≤ 4000000) → (n = 0 ∨ (b ≤ a ∧ a * b * 2 ^ (n - 1) ≤ 16000000000000)) → (64 - n) < n7 → G [] [(0, .int (nI a0)), (1, .int (nI b0)), (2, .int (nI a)), (3, .int (nI b)), (4, .int (nI n))] 7 [] := by
    intro n7
    induction n7 with
    | zero => intro a b n hg hn ha2 hb2 hp hm7; exact absurd hm7 (Nat.not_lt_zero _)
    | succ n7 ih7 =>
      intro a b n hg hn ha2 hb2 hp hm7
      refine j_iload (pc := 7) hM dX0_greatestCommon_7 4 rfl ?_
      refine j_bipush (pc := 9) hM (v := nI 64) dX0_greatestCommon_9 (by decide) ?_
      refine j_icmp_ge (pc := 11) hM 34 dX0_greatestCommon_11 (by decide) (cLE (by omega) (by omega)) (fun c11 => ?_) (fun c11 => ?_)
      · skip
        refine j_iload_n (pc := 34) hM dX0_greatestCommon_34 rfl 2 rfl ?_
        exact hret () _ _ _ _ trivial rfl (sI (show a = (Nat.gcd a0 b0) from by first | exact gcd_out hg hn hp (Or.inl c11) | exact gcd_out hg hn hp (Or.inr c15))) rfl dX0_greatestCommon_35
      · skip
        refine j_iload_n (pc := 14) hM dX0_greatestCommon_14 rfl 3 rfl ?_
        refine j_if_eq (pc := 15) hM 34 dX0_greatestCommon_15 (by decide) (i0_eq (by omega)) (fun c15 => ?_) (fun c15 => ?_)
        · skip
          refine j_iload_n (pc := 34) hM dX0_greatestCommon_34 rfl 2 rfl ?_
          exact hret () _ _ _ _ trivial rfl (sI (show a = (Nat.gcd a0 b0) from by first | exact gcd_out hg hn hp (Or.inl c11) | exact gcd_out hg hn hp (Or.inr c15))) rfl dX0_greatestCommon_35
        · skip
          refine j_iload_n (pc := 18) hM dX0_greatestCommon_18 rfl 2 rfl ?_
          refine j_iload_n (pc := 19) hM dX0_greatestCommon_19 rfl 3 rfl ?_
          refine j_irem (pc := 20) hM (v := nI (a % b)) dX0_greatestCommon_20 (nne0 (by omega) (by omega)) (nrem (by omega) (by omega) (by omega)) ?_
          refine j_istore (pc := 21) hM [(5, .int (nI (a % b))), (0, .int (nI a0)), (1, .int (nI b0)), (2, .int (nI a)), (3, .int (nI b)), (4, .int (nI n))] dX0_greatestCommon_21 (by decide) rfl ?_
          refine j_iload_n (pc := 23) hM dX0_greatestCommon_23 rfl 4 rfl ?_
          refine j_istore_n (pc := 24) hM [(2, .int (nI b)), (5, .int (nI (a % b))), (0, .int (nI a0)), (1, .int (nI b0)), (3, .int (nI b)), (4, .int (nI n))] dX0_greatestCommon_24 rfl (by decide) rfl ?_
          refine j_iload (pc := 25) hM dX0_greatestCommon_25 1 rfl ?_
          refine j_istore_n (pc := 27) hM [(3, .int (nI (a % b))), (2, .int (nI b)), (5, .int (nI (a % b))), (0, .int (nI a0)), (1, .int (nI b0)), (4, .int (nI n))] dX0_greatestCommon_27 rfl (by decide) rfl ?_
          refine j_iinc (pc := 28) hM (n' := 5) [(4, .int (nI (n + 1))), (3, .int (nI (a % b))), (2, .int (nI b)), (5, .int (nI (a % b))), (0, .int (nI a0)), (1, .int (nI b0))] dX0_greatestCommon_28 rfl (nI_add _ 1) (by decide) rfl ?_
          refine j_goto (pc := 31) hM 7 dX0_greatestCommon_31 (by decide) ?_
          have hm9 := Nat.mod_lt a (show 0 < b by omega)
          refine j_lv (pc := 7) hM [4, 5, 2, 1, 0] rfl ?_
          exact ih7 b (a % b) (n + 1) (gcd_stepE hg) (by omega) (by omega) (by omega) (gcd_stepP c15 ha2 hb2 hp) (by omega)
  refine j_lv (pc := 7) hM [3, 4, 2, 1, 0] rfl ?_
  exact L7 _ a0 b0 0 rfl (by omega) (by omega) (by omega) (Or.inl rfl) (Nat.lt_succ_self _)
set_option maxHeartbeats 4000000 in
set_option maxRecDepth 100000 in
theorem c_X0_weightOf (l : Launch) (D : va_G) (cy : ClassId) (p : Nat) (eS : Nat) (ab : Nat) (be : Nat) (e : S3) (o : Nat) (aH : Nat) (aW : Nat) (aD : Nat) (aK : Nat) (aM : Nat) (aA : Nat) (aT : Nat) (aS : Nat) (ns : Nat) (nb : Nat) (na : Nat) (tm : Nat) (sn : Nat) (k : Nat → Nat) (m : Nat → Nat) (s : S3) (c : Nat) (t : Nat) (okk : okK na k m) (oks : okS s) (ht : t ≤ 10) (hc : c < 2147483648) : Ct (σ := Unit) l D cy yX0_weightOf cX0_weightOf 6 (some .int) { frames := 3, cells := 0, slots := 0, locals := 61 } [.ref p, .ref o, .int (nI c), .int (nI t)] [(p, .inr (0, [.ref eS, .int (nI ab), .int (nI be)])), (eS, .inr (6, [.int (nI e.1), .int (nI e.2.1), .int (nI e.2.2)])), (o, .inr (8, [.ref aH, .ref aW, .ref aD, .ref aK, .ref aM, .ref aA, .ref aT, .ref aS, .int (nI ns), .int (nI nb), .int (nI na), .int (nI tm), .int (nI sn)])), (aK, arC cy 5 k), (aM, arC cy 5 m), (aS, .inr (6, [.int (nI s.1), .int (nI s.2.1), .int (nI s.2.2)]))] (fun _ => True) (fun _ => some (.int (nI ((chw k m c t s na).1)))) (fun _ => [(p, .inr (0, [.ref eS, .int (nI ab), .int (nI be)])), (eS, .inr (6, [.int (nI (((chw k m c t s na).2).1)), .int (nI (((chw k m c t s na).2).2.1)), .int (nI (((chw k m c t s na).2).2.2))])), (o, .inr (8, [.ref aH, .ref aW, .ref aD, .ref aK, .ref aM, .ref aA, .ref aT, .ref aS, .int (nI ns), .int (nI nb), .int (nI na), .int (nI tm), .int (nI sn)])), (aK, arC cy 5 k), (aM, arC cy 5 m), (aS, .inr (6, [.int (nI s.1), .int (nI s.2.1), .int (nI s.2.2)]))]) := by
  refine Ct_ofI (by decide) (lb rfl) [(0, .ref p), (1, .ref o), (2, .int (nI c)), (3, .int (nI t))] rfl (fun G hM hret => ?_)
  obtain ⟨k1, k2, k3⟩ := id okk
  refine j_iconst (pc := 0) hM (v := nI 1) dX0_weightOf_0 (by decide) ?_
  refine j_istore (pc := 1) hM [(4, .int (nI 1)), (0, .ref p), (1, .ref o), (2, .int (nI c)), (3, .int (nI t))] dX0_weightOf_1 (by decide) rfl ?_
  refine j_aload_n (pc := 3) hM dX0_weightOf_3 rfl 1 rfl ?_
  refine j_get (pc := 4) hM fd_X0_10 0 rfl rfl dX0_weightOf_4 ?_
  refine j_aload_n (pc := 7) hM dX0_weightOf_7 rfl 2 rfl ?_
  refine j_get (pc := 8) hM fd_X0_48 2 rfl rfl dX0_weightOf_8 ?_
  refine j_callV (pc := 11) hM cv_X0_49 (As := [.ref aS]) (rest := []) (b := eS) (c_X6_become l D cy eS aS e s (by first | assumption | omega)) ⟨lb rfl, lb rfl, lb rfl, lb rfl⟩ rfl 1 rfl rfl [1, 5] [0, 2, 3, 4] [0, 4, 1, 2, 3, 5] [(p, .inr (0, [.ref eS, .int (nI ab), .int (nI be)])), (o, .inr (8, [.ref aH, .ref aW, .ref aD, .ref aK, .ref aM, .ref aA, .ref aT, .ref aS, .int (nI ns), .int (nI nb), .int (nI na), .int (nI tm), .int (nI sn)])), (aK, arC cy 5 k), (aM, arC cy 5 m)] (fun _ => [(p, .inr (0, [.ref eS, .int (nI ab), .int (nI be)])), (eS, .inr (6, [.int (nI s.1), .int (nI s.2.1), .int (nI s.2.2)])), (o, .inr (8, [.ref aH, .ref aW, .ref aD, .ref aK, .ref aM, .ref aA, .ref aT, .ref aS, .int (nI ns), .int (nI nb), .int (nI na), .int (nI tm), .int (nI sn)])), (aK, arC cy 5 k), (aM, arC cy 5 m), (aS, .inr (6, [.int (nI s.1), .int (nI s.2.1), .int (nI s.2.2)]))]) rfl (by decide) rfl (by decide) (by decide) (by decide) (fun _ => rfl) (lb rfl) dX0_weightOf_11 hM.two (fun _ _ => ?_)
  show G [(p, .inr (0, [.ref eS, .int (nI ab), .int (nI be)])), (eS, .inr (6, [.int (nI s.1), .int (nI s.2.1), .int (nI s.2.2)])), (o, .inr (8, [.ref aH, .ref aW, .ref aD, .ref aK, .ref aM, .ref aA, .ref aT, .ref aS, .int (nI ns), .int (nI nb), .int (nI na), .int (nI tm), .int (nI sn)])), (aK, arC cy 5 k), (aM, arC cy 5 m), (aS, .inr (6, [.int (nI s.1), .int (nI s.2.1), .int (nI s.2.2)]))] [(4, .int (nI 1)), (0, .ref p), (1, .ref o), (2, .int (nI c)), (3, .int (nI t))] 14 []
  refine j_iconst (pc := 14) hM (v := nI 0) dX0_weightOf_14 (by decide) ?_
  refine j_istore (pc := 15) hM [(5, .int (nI 0)), (4, .int (nI 1)), (0, .ref p), (1, .ref o), (2, .int (nI c)), (3, .int (nI t))] dX0_weightOf_15 (by decide) rfl ?_
  have L17 : ∀ (n17 : Nat) (i : Nat) (x : Nat) (e : S3), (i ≤ na) → (x = (chw k m c t s i).1) → (e = (chw k m c t s i).2) → (okS e) → (na - i) < n17 → G [(p, .inr (0, [.ref eS, .int (nI ab), .int (nI be)])), (eS, .inr (6, [.int (nI e.1), .int (nI e.2.1), .int (nI e.2.2)])), (o, .inr (8, [.ref aH, .ref aW, .ref aD, .ref aK, .ref aM, .ref aA, .ref aT, .ref aS, .int (nI ns), .int (nI nb), .int (nI na), .int (nI tm), .int (nI sn)])), (aK, arC cy 5 k), (aM, arC cy 5 m), (aS, .inr (6, [.int (nI s.1), .int (nI s.2.1), .int (nI s.2.2)]))] [(0, .ref p), (1, .ref o), (2, .int (nI c)), (3, .int (nI t)), (4, .int (nI x)), (5, .int (nI i))] 17 [] := by
    intro n17
    induction n17 with
    | zero => intro i x e hi hx he hoe hm17; exact absurd hm17 (Nat.not_lt_zero _)
    | succ n17 ih17 =>
      intro i x e hi hx he hoe hm17
      refine j_iload (pc := 17) hM dX0_weightOf_17 5 rfl ?_
      refine j_aload_n (pc := 19) hM dX0_weightOf_19 rfl 1 rfl ?_
      refine j_get (pc := 20) hM fd_X0_29 2 rfl rfl dX0_weightOf_20 ?_
      refine j_icmp_ge (pc := 23) hM 69 dX0_weightOf_23 (by decide) (cLE (by omega) (by omega)) (fun c23 => ?_) (fun c23 => ?_)
      · skip
        refine j_iload (pc := 69) hM dX0_weightOf_69 4 rfl ?_
        exact hret () _ _ _ _ trivial (eq3 (fun (z0 : Nat) (z1 : Nat) (z2 : Nat) => ([(p, .inr (0, [.ref eS, .int (nI ab), .int (nI be)])), (eS, .inr (6, [.int (nI z0), .int (nI z1), .int (nI z2)])), (o, .inr (8, [.ref aH, .ref aW, .ref aD, .ref aK, .ref aM, .ref aA, .ref aT, .ref aS, .int (nI ns), .int (nI nb), .int (nI na), .int (nI tm), .int (nI sn)])), (aK, arC cy 5 k), (aM, arC cy 5 m), (aS, .inr (6, [.int (nI s.1), .int (nI s.2.1), .int (nI s.2.2)]))] : va_W)) (show e.1 = (((chw k m c t s na).2).1) from by rw [he, show i = na by omega]) (show e.2.1 = (((chw k m c t s na).2).2.1) from by rw [he, show i = na by omega]) (show e.2.2 = (((chw k m c t s na).2).2.2) from by rw [he, show i = na by omega])) (sI (show x = ((chw k m c t s na).1) from by rw [hx, show i = na by omega])) rfl dX0_weightOf_71
      · skip
        refine j_iload_n (pc := 26) hM dX0_weightOf_26 rfl 2 rfl ?_
        refine j_iconst (pc := 27) hM (v := nI 1) dX0_weightOf_27 (by decide) ?_
        refine j_iload (pc := 28) hM dX0_weightOf_28 5 rfl ?_
        refine j_ishl (pc := 30) hM (v := nI (1 * 2 ^ i)) dX0_weightOf_30 (nshl (by omega) (by have := Nat.pow_le_pow_right (show 0 < 2 by decide) (show i ≤ 5 by omega); omega)) ?_
        refine j_iand (pc := 31) hM (v := nI (c &&& (1 * 2 ^ i))) dX0_weightOf_31 (nand _ _) ?_
        refine j_if_eqB (pc := 32) (P := c / 2 ^ i % 2 = 1) hM 54 dX0_weightOf_32 (by decide) (bit_eq (by omega)) (fun c32 => ?_) (fun c32 => ?_)
        · skip
          refine j_iload (pc := 54) hM dX0_weightOf_54 4 rfl ?_
          refine j_bipush (pc := 56) hM (v := nI 10) dX0_weightOf_56 (by decide) ?_
          refine j_iload_n (pc := 58) hM dX0_weightOf_58 rfl 3 rfl ?_
          refine j_isub (pc := 59) hM (v := nI (10 - t)) dX0_weightOf_59 (nsub (by omega)) ?_
          refine j_imul (pc := 60) hM (v := nI (x * (10 - t))) dX0_weightOf_60 (nmul _ _) ?_
          refine j_istore (pc := 61) hM [(4, .int (nI (x * (10 - t)))), (0, .ref p), (1, .ref o), (2, .int (nI c)), (3, .int (nI t)), (5, .int (nI i))] dX0_weightOf_61 (by decide) rfl ?_
          refine j_iinc (pc := 63) hM (n' := 5) [(5, .int (nI (i + 1))), (4, .int (nI (x * (10 - t)))), (0, .ref p), (1, .ref o), (2, .int (nI c)), (3, .int (nI t))] dX0_weightOf_63 rfl (nI_add _ 1) (by decide) rfl ?_
          refine j_goto (pc := 66) hM 17 dX0_weightOf_66 (by decide) ?_
          refine j_lv (pc := 17) hM [2, 3, 4, 5, 1, 0] rfl ?_
          exact ih17 (i + 1) (x * (10 - t)) e (by omega) (by rw [hx]; simp [chw, c32]) (by rw [he]; simp [chw, c32]) (by first | exact ok_hear hoe | exact hoe) (by omega)
        · skip
          refine j_iload (pc := 35) hM dX0_weightOf_35 4 rfl ?_
          refine j_iload_n (pc := 37) hM dX0_weightOf_37 rfl 3 rfl ?_
          refine j_imul (pc := 38) hM (v := nI (x * t)) dX0_weightOf_38 (nmul _ _) ?_
          refine j_istore (pc := 39) hM [(4, .int (nI (x * t))), (0, .ref p), (1, .ref o), (2, .int (nI c)), (3, .int (nI t)), (5, .int (nI i))] dX0_weightOf_39 (by decide) rfl ?_
          refine j_aload_n (pc := 41) hM dX0_weightOf_41 rfl 2 rfl ?_
          refine j_iload (pc := 42) hM dX0_weightOf_42 5 rfl ?_
          refine j_aload_n (pc := 44) hM dX0_weightOf_44 rfl 1 rfl ?_
          refine j_get (pc := 45) hM fd_X0_10 0 rfl rfl dX0_weightOf_45 ?_
          refine j_callV (pc := 48) hM cv_X0_53 (As := [.int (nI i), .ref eS]) (rest := []) (b := o) (c_X8_letAsk l D cy o aH aW aD aK aM aA aT aS ns nb na tm sn k m eS e i okk hoe (by omega)) ⟨lb rfl, lb rfl, lb rfl, lb rfl⟩ rfl 2 rfl rfl [2, 3, 4, 1] [0, 5] [0, 5, 2, 3, 4, 1] [(p, .inr (0, [.ref eS, .int (nI ab), .int (nI be)])), (aS, .inr (6, [.int (nI s.1), .int (nI s.2.1), .int (nI s.2.2)]))] (fun _ => [(p, .inr (0, [.ref eS, .int (nI ab), .int (nI be)])), (eS, .inr (6, [.int (nI ((hear (k i) (m i) e).1)), .int (nI ((hear (k i) (m i) e).2.1)), .int (nI ((hear (k i) (m i) e).2.2))])), (o, .inr (8, [.ref aH, .ref aW, .ref aD, .ref aK, .ref aM, .ref aA, .ref aT, .ref aS, .int (nI ns), .int (nI nb), .int (nI na), .int (nI tm), .int (nI sn)])), (aK, arC cy 5 k), (aM, arC cy 5 m), (aS, .inr (6, [.int (nI s.1), .int (nI s.2.1), .int (nI s.2.2)]))]) rfl (by decide) rfl (by decide) (by decide) (by decide) (fun _ => rfl) (lb rfl) dX0_weightOf_48 hM.two (fun _ _ => ?_)
          show G [(p, .inr (0, [.ref eS, .int (nI ab), .int (nI be)])), (eS, .inr (6, [.int (nI ((hear (k i) (m i) e).1)), .int (nI ((hear (k i) (m i) e).2.1)), .int (nI ((hear (k i) (m i) e).2.2))])), (o, .inr (8, [.ref aH, .ref aW, .ref aD, .ref aK, .ref aM, .ref aA, .ref aT, .ref aS, .int (nI ns), .int (nI nb), .int (nI na), .int (nI tm), .int (nI sn)])), (aK, arC cy 5 k), (aM, arC cy 5 m), (aS, .inr (6, [.int (nI s.1), .int (nI s.2.1), .int (nI s.2.2)]))] [(4, .int (nI (x * t))), (0, .ref p), (1, .ref o), (2, .int (nI c)), (3, .int (nI t)), (5, .int (nI i))] 51 []
          refine j_goto (pc := 51) hM 63 dX0_weightOf_51 (by decide) ?_
          refine j_iinc (pc := 63) hM (n' := 5) [(5, .int (nI (i + 1))), (4, .int (nI (x * t))), (0, .ref p), (1, .ref o), (2, .int (nI c)), (3, .int (nI t))] dX0_weightOf_63 rfl (nI_add _ 1) (by decide) rfl ?_
          refine j_goto (pc := 66) hM 17 dX0_weightOf_66 (by decide) ?_
          refine j_lv (pc := 17) hM [2, 3, 4, 5, 1, 0] rfl ?_
          exact ih17 (i + 1) (x * t) (hear (k i) (m i) e) (by omega) (by rw [hx]; simp [chw, c32]) (by rw [he]; simp [chw, c32]) (by first | exact ok_hear hoe | exact hoe) (by omega)
  refine j_lv (pc := 17) hM [2, 3, 4, 5, 1, 0] rfl ?_
  exact L17 _ 0 1 s (by omega) rfl rfl oks (Nat.lt_succ_self _)
set_option maxHeartbeats 4000000 in
set_option maxRecDepth 100000 in
theorem c_X0_find (l : Launch) (D : va_G) (cy : ClassId) (p : Nat) (eS : Nat) (ab : Nat) (be : Nat) (e : S3) (o : Nat) (aH : Nat) (aW : Nat) (aD : Nat) (aK : Nat) (aM : Nat) (aA : Nat) (aT : Nat) (aS : Nat) (ns : Nat) (nb : Nat) (na : Nat) (tm : Nat) (sn : Nat) (h : Nat → Nat) (w : Nat → Nat) (d : Nat → Nat) (k : Nat → Nat) (m : Nat → Nat) (s : S3) (b : Nat) (t : Nat) (ok : okB ns nb h w d) (okk : okK na k m) (oks : okS s) (hb : b < nb) (ht : t ≤ 10) : Ct (σ := S3) l D cy yX0_find cX0_find 9 none { frames := 4, cells := 0, slots := 0, locals := 86 } [.ref p, .ref o, .int (nI b), .int (nI t)] [(p, .inr (0, [.ref eS, .int (nI ab), .int (nI be)])), (eS, .inr (6, [.int (nI e.1), .int (nI e.2.1), .int (nI e.2.2)])), (o, .inr (8, [.ref aH, .ref aW, .ref aD, .ref aK, .ref aM, .ref aA, .ref aT, .ref aS, .int (nI ns), .int (nI nb), .int (nI na), .int (nI tm), .int (nI sn)])), (aH, arC cy 8 h), (aW, arC cy 3 w), (aD, arC cy 3 d), (aK, arC cy 5 k), (aM, arC cy 5 m), (aS, .inr (6, [.int (nI s.1), .int (nI s.2.1), .int (nI s.2.2)]))] (fun u => True) (fun u => none) (fun u => [(p, .inr (0, [.ref eS, .int (nI (odX k m na t s (leastT h w d b))), .int (nI (odY k m na t s (leastT h w d b)))])), (eS, .inr (6, [.int (nI u.1), .int (nI u.2.1), .int (nI u.2.2)])), (o, .inr (8, [.ref aH, .ref aW, .ref aD, .ref aK, .ref aM, .ref aA, .ref aT, .ref aS, .int (nI ns), .int (nI nb), .int (nI na), .int (nI tm), .int (nI sn)])), (aH, arC cy 8 h), (aW, arC cy 3 w), (aD, arC cy 3 d), (aK, arC cy 5 k), (aM, arC cy 5 m), (aS, .inr (6, [.int (nI s.1), .int (nI s.2.1), .int (nI s.2.2)]))]) := by
  refine Ct_ofV (by decide) (lb rfl) [(0, .ref p), (1, .ref o), (2, .int (nI b)), (3, .int (nI t))] rfl (fun G hM hret => ?_)
  have k1 := okk.1
  have hp0 := Nat.two_pow_pos na
  have hp : 2 ^ na ≤ 2 ^ 5 := Nat.pow_le_pow_right (by decide) k1
  refine j_aload_n (pc := 0) hM dX0_find_0 rfl 1 rfl ?_
  refine j_iload_n (pc := 1) hM dX0_find_1 rfl 2 rfl ?_
  refine j_callV (pc := 2) hM cv_X0_23 (As := [.int (nI b)]) (rest := []) (b := o) (c_X8_leastTide l D cy o aH aW aD aK aM aA aT aS ns nb na tm sn h w d b ok hb) ⟨lb rfl, lb rfl, lb rfl, lb rfl⟩ rfl 2 rfl rfl [2, 3, 4, 5] [0, 1, 6, 7, 8] [0, 1, 5, 6, 7, 8, 2, 3, 4] [(p, .inr (0, [.ref eS, .int (nI ab), .int (nI be)])), (eS, .inr (6, [.int (nI e.1), .int (nI e.2.1), .int (nI e.2.2)])), (aK, arC cy 5 k), (aM, arC cy 5 m), (aS, .inr (6, [.int (nI s.1), .int (nI s.2.1), .int (nI s.2.2)]))] (fun _ => [(p, .inr (0, [.ref eS, .int (nI ab), .int (nI be)])), (eS, .inr (6, [.int (nI e.1), .int (nI e.2.1), .int (nI e.2.2)])), (o, .inr (8, [.ref aH, .ref aW, .ref aD, .ref aK, .ref aM, .ref aA, .ref aT, .ref aS, .int (nI ns), .int (nI nb), .int (nI na), .int (nI tm), .int (nI sn)])), (aH, arC cy 8 h), (aW, arC cy 3 w), (aD, arC cy 3 d), (aK, arC cy 5 k), (aM, arC cy 5 m), (aS, .inr (6, [.int (nI s.1), .int (nI s.2.1), .int (nI s.2.2)]))]) rfl (by decide) rfl (by decide) (by decide) (by decide) (fun _ => rfl) (lb rfl) dX0_find_2 hM.two (fun _ _ => ?_)
  show G [(p, .inr (0, [.ref eS, .int (nI ab), .int (nI be)])), (eS, .inr (6, [.int (nI e.1), .int (nI e.2.1), .int (nI e.2.2)])), (o, .inr (8, [.ref aH, .ref aW, .ref aD, .ref aK, .ref aM, .ref aA, .ref aT, .ref aS, .int (nI ns), .int (nI nb), .int (nI na), .int (nI tm), .int (nI sn)])), (aH, arC cy 8 h), (aW, arC cy 3 w), (aD, arC cy 3 d), (aK, arC cy 5 k), (aM, arC cy 5 m), (aS, .inr (6, [.int (nI s.1), .int (nI s.2.1), .int (nI s.2.2)]))] [(0, .ref p), (1, .ref o), (2, .int (nI b)), (3, .int (nI t))] 5 [.int (nI (leastT h w d b))]
  have hL := leastT_le ok hb
  refine j_istore (pc := 5) hM [(4, .int (nI (leastT h w d b))), (0, .ref p), (1, .ref o), (2, .int (nI b)), (3, .int (nI t))] dX0_find_5 (by decide) rfl ?_
  refine j_iconst (pc := 7) hM (v := nI 0) dX0_find_7 (by decide) ?_
  refine j_istore (pc := 8) hM [(5, .int (nI 0)), (4, .int (nI (leastT h w d b))), (0, .ref p), (1, .ref o), (2, .int (nI b)), (3, .int (nI t))] dX0_find_8 (by decide) rfl ?_
  refine j_iconst (pc := 10) hM (v := nI 0) dX0_find_10 (by decide) ?_
  refine j_istore (pc := 11) hM [(6, .int (nI 0)), (5, .int (nI 0)), (4, .int (nI (leastT h w d b))), (0, .ref p), (1, .ref o), (2, .int (nI b)), (3, .int (nI t))] dX0_find_11 (by decide) rfl ?_
  refine j_iconst (pc := 13) hM (v := nI 0) dX0_find_13 (by decide) ?_
  refine j_istore (pc := 14) hM [(7, .int (nI 0)), (6, .int (nI 0)), (5, .int (nI 0)), (4, .int (nI (leastT h w d b))), (0, .ref p), (1, .ref o), (2, .int (nI b)), (3, .int (nI t))] dX0_find_14 (by decide) rfl ?_
  have L16 : ∀ (n16 : Nat) (c : Nat) (x : Nat) (y : Nat) (e : S3), (c ≤ 2 ^ na) → (x = odU k m na t s (leastT h w d b) c) → (y = odA k m na t s c) → (2 ^ na - c) < n16 → G [(p, .inr (0, [.ref eS, .int (nI ab), .int (nI be)])), (eS, .inr (6, [.int (nI e.1), .int (nI e.2.1), .int (nI e.2.2)])), (o, .inr (8, [.ref aH, .ref aW, .ref aD, .ref aK, .ref aM, .ref aA, .ref aT, .ref aS, .int (nI ns), .int (nI nb), .int (nI na), .int (nI tm), .int (nI sn)])), (aH, arC cy 8 h), (aW, arC cy 3 w), (aD, arC cy 3 d), (aK, arC cy 5 k), (aM, arC cy 5 m), (aS, .inr (6, [.int (nI s.1), .int (nI s.2.1), .int (nI s.2.2)]))] [(0, .ref p), (1, .ref o), (2, .int (nI b)), (3, .int (nI t)), (4, .int (nI (leastT h w d b))), (5, .int (nI x)), (6, .int (nI y)), (7, .int (nI c))] 16 [] := by
    intro n16
    induction n16 with
    | zero => intro c x y e hc hx hy hm16; exact absurd hm16 (Nat.not_lt_zero _)
    | succ n16 ih16 =>
      intro c x y e hc hx hy hm16
      refine j_iload (pc := 16) hM dX0_find_16 7 rfl ?_
      refine j_iconst (pc := 18) hM (v := nI 1) dX0_find_18 (by decide) ?_
      refine j_aload_n (pc := 19) hM dX0_find_19 rfl 1 rfl ?_
      refine j_get (pc := 20) hM fd_X0_29 2 rfl rfl dX0_find_20 ?_
      refine j_ishl (pc := 23) hM (v := nI (1 * 2 ^ na)) dX0_find_23 (nshl (by omega) (by omega)) ?_
      refine j_icmp_ge (pc := 24) hM 69 dX0_find_24 (by decide) (cLE (by omega) (by omega)) (fun c24 => ?_) (fun c24 => ?_)
      · skip
        have hcc : c = 2 ^ na := by omega
        rw [hcc] at hx hy
        have y1 := odA_le (k := k) (m := m) (s := s) ht k1 (c := 2 ^ na)
        have y2 := odU_le (k := k) (m := m) (na := na) (t := t) (s := s) (L := (leastT h w d b)) (c := 2 ^ na)
        have y3 := odA_pos (k := k) (m := m) (s := s) ht na
        rw [← hy] at y1 y2 y3
        rw [← hx] at y2
        refine j_iconst (pc := 69) hM (v := nI 1) dX0_find_69 (by decide) ?_
        refine j_iload (pc := 70) hM dX0_find_70 5 rfl ?_
        refine j_iload (pc := 72) hM dX0_find_72 6 rfl ?_
        refine j_callS (pc := 74) hM cs_X0_39 (As := [.int (nI x), .int (nI y)]) (rest := [.int (nI 1)]) (c_X0_greatestCommon l D cy x y (by first | assumption | omega) (by first | assumption | omega)) ⟨lb rfl, lb rfl, lb rfl, lb rfl⟩ rfl [] [0, 1, 2, 3, 4, 5, 6, 7, 8] [0, 1, 2, 3, 4, 5, 6, 7, 8] [(p, .inr (0, [.ref eS, .int (nI ab), .int (nI be)])), (eS, .inr (6, [.int (nI e.1), .int (nI e.2.1), .int (nI e.2.2)])), (o, .inr (8, [.ref aH, .ref aW, .ref aD, .ref aK, .ref aM, .ref aA, .ref aT, .ref aS, .int (nI ns), .int (nI nb), .int (nI na), .int (nI tm), .int (nI sn)])), (aH, arC cy 8 h), (aW, arC cy 3 w), (aD, arC cy 3 d), (aK, arC cy 5 k), (aM, arC cy 5 m), (aS, .inr (6, [.int (nI s.1), .int (nI s.2.1), .int (nI s.2.2)]))] (fun _ => [(p, .inr (0, [.ref eS, .int (nI ab), .int (nI be)])), (eS, .inr (6, [.int (nI e.1), .int (nI e.2.1), .int (nI e.2.2)])), (o, .inr (8, [.ref aH, .ref aW, .ref aD, .ref aK, .ref aM, .ref aA, .ref aT, .ref aS, .int (nI ns), .int (nI nb), .int (nI na), .int (nI tm), .int (nI sn)])), (aH, arC cy 8 h), (aW, arC cy 3 w), (aD, arC cy 3 d), (aK, arC cy 5 k), (aM, arC cy 5 m), (aS, .inr (6, [.int (nI s.1), .int (nI s.2.1), .int (nI s.2.2)]))]) rfl (by decide) rfl (by decide) (by decide) (by decide) (fun _ => rfl) (lb rfl) dX0_find_74 hM.two (fun _ _ => ?_)
        show G [(p, .inr (0, [.ref eS, .int (nI ab), .int (nI be)])), (eS, .inr (6, [.int (nI e.1), .int (nI e.2.1), .int (nI e.2.2)])), (o, .inr (8, [.ref aH, .ref aW, .ref aD, .ref aK, .ref aM, .ref aA, .ref aT, .ref aS, .int (nI ns), .int (nI nb), .int (nI na), .int (nI tm), .int (nI sn)])), (aH, arC cy 8 h), (aW, arC cy 3 w), (aD, arC cy 3 d), (aK, arC cy 5 k), (aM, arC cy 5 m), (aS, .inr (6, [.int (nI s.1), .int (nI s.2.1), .int (nI s.2.2)]))] [(0, .ref p), (1, .ref o), (2, .int (nI b)), (3, .int (nI t)), (4, .int (nI (leastT h w d b))), (5, .int (nI x)), (6, .int (nI y)), (7, .int (nI c))] 77 [.int (nI (Nat.gcd x y)), .int (nI 1)]
        have g2 := Nat.gcd_le_right x y3
        have g3 := Nat.gcd_pos_of_pos_right x y3
        refine j_max (pc := 77) hM (v := nI (Nat.gcd x y)) ml_X0_43 mw_max ⟨lb rfl, lb rfl, lb rfl, lb rfl⟩ dX0_find_77 (nmax (by omega) (by omega) (by omega)) ?_
        refine j_istore (pc := 80) hM [(7, .int (nI (Nat.gcd x y))), (0, .ref p), (1, .ref o), (2, .int (nI b)), (3, .int (nI t)), (4, .int (nI (leastT h w d b))), (5, .int (nI x)), (6, .int (nI y))] dX0_find_80 (by decide) rfl ?_
        refine j_aload_n (pc := 82) hM dX0_find_82 rfl 1 rfl ?_
        refine j_iload (pc := 83) hM dX0_find_83 6 rfl ?_
        refine j_iload (pc := 85) hM dX0_find_85 0 rfl ?_
        refine j_idiv (pc := 87) hM (v := nI (x / (Nat.gcd x y))) dX0_find_87 (nne0 (by omega) (by omega)) (ndiv (by omega) (by omega) (by omega)) ?_
        refine j_put (pc := 88) hM fp_X0_16 [(p, .inr (0, [.ref eS, .int (nI (x / (Nat.gcd x y))), .int (nI be)])), (eS, .inr (6, [.int (nI e.1), .int (nI e.2.1), .int (nI e.2.2)])), (o, .inr (8, [.ref aH, .ref aW, .ref aD, .ref aK, .ref aM, .ref aA, .ref aT, .ref aS, .int (nI ns), .int (nI nb), .int (nI na), .int (nI tm), .int (nI sn)])), (aH, arC cy 8 h), (aW, arC cy 3 w), (aD, arC cy 3 d), (aK, arC cy 5 k), (aM, arC cy 5 m), (aS, .inr (6, [.int (nI s.1), .int (nI s.2.1), .int (nI s.2.2)]))] 0 rfl (lb rfl) rfl rfl rfl dX0_find_88 ?_
        refine j_aload_n (pc := 91) hM dX0_find_91 rfl 1 rfl ?_
        refine j_iload (pc := 92) hM dX0_find_92 7 rfl ?_
        refine j_iload (pc := 94) hM dX0_find_94 0 rfl ?_
        refine j_idiv (pc := 96) hM (v := nI (y / (Nat.gcd x y))) dX0_find_96 (nne0 (by omega) (by omega)) (ndiv (by omega) (by omega) (by omega)) ?_
        refine j_put (pc := 97) hM fp_X0_20 [(p, .inr (0, [.ref eS, .int (nI (x / (Nat.gcd x y))), .int (nI (y / (Nat.gcd x y)))])), (eS, .inr (6, [.int (nI e.1), .int (nI e.2.1), .int (nI e.2.2)])), (o, .inr (8, [.ref aH, .ref aW, .ref aD, .ref aK, .ref aM, .ref aA, .ref aT, .ref aS, .int (nI ns), .int (nI nb), .int (nI na), .int (nI tm), .int (nI sn)])), (aH, arC cy 8 h), (aW, arC cy 3 w), (aD, arC cy 3 d), (aK, arC cy 5 k), (aM, arC cy 5 m), (aS, .inr (6, [.int (nI s.1), .int (nI s.2.1), .int (nI s.2.2)]))] 0 rfl (lb rfl) rfl rfl rfl dX0_find_97 ?_
        exact hret e _ _ _ trivial (eq2 (fun (z0 : Nat) (z1 : Nat) => ([(p, .inr (0, [.ref eS, .int (nI z0), .int (nI z1)])), (eS, .inr (6, [.int (nI e.1), .int (nI e.2.1), .int (nI e.2.2)])), (o, .inr (8, [.ref aH, .ref aW, .ref aD, .ref aK, .ref aM, .ref aA, .ref aT, .ref aS, .int (nI ns), .int (nI nb), .int (nI na), .int (nI tm), .int (nI sn)])), (aH, arC cy 8 h), (aW, arC cy 3 w), (aD, arC cy 3 d), (aK, arC cy 5 k), (aM, arC cy 5 m), (aS, .inr (6, [.int (nI s.1), .int (nI s.2.1), .int (nI s.2.2)]))] : va_W)) (show (x / (Nat.gcd x y)) = (odX k m na t s (leastT h w d b)) from by rw [hx, hy]; rfl) (show (y / (Nat.gcd x y)) = (odY k m na t s (leastT h w d b)) from by rw [hx, hy]; rfl)) rfl dX0_find_100
      · skip
        refine j_aload_n (pc := 27) hM dX0_find_27 rfl 0 rfl ?_
        refine j_aload_n (pc := 28) hM dX0_find_28 rfl 1 rfl ?_
        refine j_iload (pc := 29) hM dX0_find_29 7 rfl ?_
        refine j_iload_n (pc := 31) hM dX0_find_31 rfl 3 rfl ?_
        refine j_callV (pc := 32) hM cv_X0_32 (As := [.ref o, .int (nI c), .int (nI t)]) (rest := []) (b := p) (c_X0_weightOf l D cy p eS ab be e o aH aW aD aK aM aA aT aS ns nb na tm sn k m s c t okk oks ht (by first | assumption | omega)) ⟨lb rfl, lb rfl, lb rfl, lb rfl⟩ rfl 0 rfl rfl [0, 1, 2, 6, 7, 8] [3, 4, 5] [3, 4, 5, 0, 1, 2, 6, 7, 8] [(aH, arC cy 8 h), (aW, arC cy 3 w), (aD, arC cy 3 d)] (fun _ => [(p, .inr (0, [.ref eS, .int (nI ab), .int (nI be)])), (eS, .inr (6, [.int (nI (((chw k m c t s na).2).1)), .int (nI (((chw k m c t s na).2).2.1)), .int (nI (((chw k m c t s na).2).2.2))])), (o, .inr (8, [.ref aH, .ref aW, .ref aD, .ref aK, .ref aM, .ref aA, .ref aT, .ref aS, .int (nI ns), .int (nI nb), .int (nI na), .int (nI tm), .int (nI sn)])), (aH, arC cy 8 h), (aW, arC cy 3 w), (aD, arC cy 3 d), (aK, arC cy 5 k), (aM, arC cy 5 m), (aS, .inr (6, [.int (nI s.1), .int (nI s.2.1), .int (nI s.2.2)]))]) rfl (by decide) rfl (by decide) (by decide) (by decide) (fun _ => rfl) (lb rfl) dX0_find_32 hM.two (fun _ _ => ?_)
        show G [(p, .inr (0, [.ref eS, .int (nI ab), .int (nI be)])), (eS, .inr (6, [.int (nI (((chw k m c t s na).2).1)), .int (nI (((chw k m c t s na).2).2.1)), .int (nI (((chw k m c t s na).2).2.2))])), (o, .inr (8, [.ref aH, .ref aW, .ref aD, .ref aK, .ref aM, .ref aA, .ref aT, .ref aS, .int (nI ns), .int (nI nb), .int (nI na), .int (nI tm), .int (nI sn)])), (aH, arC cy 8 h), (aW, arC cy 3 w), (aD, arC cy 3 d), (aK, arC cy 5 k), (aM, arC cy 5 m), (aS, .inr (6, [.int (nI s.1), .int (nI s.2.1), .int (nI s.2.2)]))] [(0, .ref p), (1, .ref o), (2, .int (nI b)), (3, .int (nI t)), (4, .int (nI (leastT h w d b))), (5, .int (nI x)), (6, .int (nI y)), (7, .int (nI c))] 35 [.int (nI ((chw k m c t s na).1))]
        obtain ⟨r1, r2, r3⟩ := ok_chw (k := k) (m := m) (c := c) (t := t) oks (i := na)
        refine j_istore (pc := 35) hM [(8, .int (nI ((chw k m c t s na).1))), (0, .ref p), (1, .ref o), (2, .int (nI b)), (3, .int (nI t)), (4, .int (nI (leastT h w d b))), (5, .int (nI x)), (6, .int (nI y)), (7, .int (nI c))] dX0_find_35 (by decide) rfl ?_
        refine j_iload (pc := 37) hM dX0_find_37 7 rfl ?_
        refine j_iload (pc := 39) hM dX0_find_39 0 rfl ?_
        refine j_iadd (pc := 41) hM (v := nI (y + ((chw k m c t s na).1))) dX0_find_41 (nI_add _ _) ?_
        refine j_istore (pc := 42) hM [(6, .int (nI (y + ((chw k m c t s na).1)))), (8, .int (nI ((chw k m c t s na).1))), (0, .ref p), (1, .ref o), (2, .int (nI b)), (3, .int (nI t)), (4, .int (nI (leastT h w d b))), (5, .int (nI x)), (7, .int (nI c))] dX0_find_42 (by decide) rfl ?_
        refine j_aload_n (pc := 44) hM dX0_find_44 rfl 2 rfl ?_
        refine j_get (pc := 45) hM fd_X0_10 0 rfl rfl dX0_find_45 ?_
        refine j_get (pc := 48) hM fd_X0_36 1 rfl rfl dX0_find_48 ?_
        refine j_iload (pc := 51) hM dX0_find_51 6 rfl ?_
        refine j_icmp_lt (pc := 53) hM 63 dX0_find_53 (by decide) (cLT (by omega) (by omega)) (fun c53 => ?_) (fun c53 => ?_)
        · skip
          refine j_iinc (pc := 63) hM (n' := 8) [(7, .int (nI (c + 1))), (6, .int (nI (y + ((chw k m c t s na).1)))), (8, .int (nI ((chw k m c t s na).1))), (0, .ref p), (1, .ref o), (2, .int (nI b)), (3, .int (nI t)), (4, .int (nI (leastT h w d b))), (5, .int (nI x))] dX0_find_63 rfl (nI_add _ 1) (by decide) rfl ?_
          refine j_goto (pc := 66) hM 16 dX0_find_66 (by decide) ?_
          refine j_lv (pc := 16) hM [3, 4, 5, 6, 7, 8, 1, 0] rfl ?_
          exact ih16 (c + 1) x (y + ((chw k m c t s na).1)) ((chw k m c t s na).2) (by omega) (by rw [hx]; simp only [odU]; first | (rw [if_pos (by omega)]; done) | (rw [if_neg (by omega)]; rfl)) (by rw [hy]; rfl) (by omega)
        · skip
          refine j_iload (pc := 56) hM dX0_find_56 7 rfl ?_
          refine j_iload (pc := 58) hM dX0_find_58 1 rfl ?_
          refine j_iadd (pc := 60) hM (v := nI (x + ((chw k m c t s na).1))) dX0_find_60 (nI_add _ _) ?_
          refine j_istore (pc := 61) hM [(5, .int (nI (x + ((chw k m c t s na).1)))), (6, .int (nI (y + ((chw k m c t s na).1)))), (8, .int (nI ((chw k m c t s na).1))), (0, .ref p), (1, .ref o), (2, .int (nI b)), (3, .int (nI t)), (4, .int (nI (leastT h w d b))), (7, .int (nI c))] dX0_find_61 (by decide) rfl ?_
          refine j_iinc (pc := 63) hM (n' := 8) [(7, .int (nI (c + 1))), (5, .int (nI (x + ((chw k m c t s na).1)))), (6, .int (nI (y + ((chw k m c t s na).1)))), (8, .int (nI ((chw k m c t s na).1))), (0, .ref p), (1, .ref o), (2, .int (nI b)), (3, .int (nI t)), (4, .int (nI (leastT h w d b)))] dX0_find_63 rfl (nI_add _ 1) (by decide) rfl ?_
          refine j_goto (pc := 66) hM 16 dX0_find_66 (by decide) ?_
          refine j_lv (pc := 16) hM [4, 5, 6, 7, 8, 1, 2, 0] rfl ?_
          exact ih16 (c + 1) (x + ((chw k m c t s na).1)) (y + ((chw k m c t s na).1)) ((chw k m c t s na).2) (by omega) (by rw [hx]; simp only [odU]; first | (rw [if_pos (by omega)]; done) | (rw [if_neg (by omega)]; rfl)) (by rw [hy]; rfl) (by omega)
  refine j_lv (pc := 16) hM [4, 5, 6, 7, 3, 2, 1, 0] rfl ?_
  exact L16 _ 0 0 0 e (Nat.zero_le _) rfl rfl (Nat.lt_succ_self _)
set_option maxHeartbeats 4000000 in
set_option maxRecDepth 100000 in
theorem c_X7_next (l : Launch) (D : va_G) (cy : ClassId) (p : Nat) (eS : Nat) (sd : Nat) (fl : Nat) (n : Nat) (hsd : sd < 2147483648) (hn : 0 < n) (hn9 : n ≤ 9) : Ct (σ := Unit) l D cy yX7_next cX7_next 2 (some .int) { frames := 0, cells := 0, slots := 0, locals := 0 } [.ref p, .int (nI n)] [(p, .inr (7, [.ref eS, .int (nI sd), .int (nI fl)]))] (fun _ => True) (fun _ => some (.int (nI (lcg sd / 65536 % n)))) (fun _ => [(p, .inr (7, [.ref eS, .int (nI (lcg sd)), .int (nI fl)]))]) := by
  refine Ct_ofI (by decide) (lb rfl) [(0, .ref p), (1, .int (nI n))] rfl (fun G hM hret => ?_)
  have hl := lcg_lt sd
  refine j_aload_n (pc := 0) hM dX7_next_0 rfl 0 rfl ?_
  refine j_ldc2 (pc := 1) hM (v := 1103515245) kl_X7_50 dX7_next_1 ?_
  refine j_aload_n (pc := 4) hM dX7_next_4 rfl 0 rfl ?_
  refine j_get (pc := 5) hM fd_X7_16 0 rfl rfl dX7_next_5 ?_
  refine j_i2l (pc := 8) hM (v := (nI sd).toInt64) dX7_next_8 rfl ?_
  refine j_lmul (pc := 9) hM (v := 1103515245 * ((nI sd).toInt64)) dX7_next_9 rfl ?_
  refine j_ldc2 (pc := 10) hM (v := 12345) kl_X7_52 dX7_next_10 ?_
  refine j_ladd (pc := 13) hM (v := (1103515245 * ((nI sd).toInt64)) + 12345) dX7_next_13 rfl ?_
  refine j_ldc2 (pc := 14) hM (v := 2147483647) kl_X7_54 dX7_next_14 ?_
  refine j_land (pc := 17) hM (v := ((1103515245 * ((nI sd).toInt64)) + 12345) &&& 2147483647) dX7_next_17 rfl ?_
  refine j_l2i (pc := 18) hM (v := nI (lcg sd)) dX7_next_18 (lcg_eq hsd) ?_
  refine j_put (pc := 19) hM fp_X7_16 [(p, .inr (7, [.ref eS, .int (nI (lcg sd)), .int (nI fl)]))] 0 rfl (lb rfl) rfl rfl rfl dX7_next_19 ?_
  refine j_iload_n (pc := 22) hM dX7_next_22 rfl 1 rfl ?_
  refine j_if_le (pc := 23) hM 38 dX7_next_23 (by decide) (i0_le (by omega)) (fun c23 => ?_) (fun c23 => ?_)
  · skip
    exact absurd c23 (by omega)
  · skip
    refine j_aload_n (pc := 26) hM dX7_next_26 rfl 0 rfl ?_
    refine j_get (pc := 27) hM fd_X7_16 0 rfl rfl dX7_next_27 ?_
    refine j_ldc (pc := 30) hM (v := nI 65536) ki_X7_56 dX7_next_30 ?_
    refine j_idiv (pc := 32) hM (v := nI ((lcg sd) / 65536)) dX7_next_32 (nne0 (by omega) (by omega)) (ndiv (by omega) (by omega) (by omega)) ?_
    refine j_iload_n (pc := 33) hM dX7_next_33 rfl 1 rfl ?_
    refine j_irem (pc := 34) hM (v := nI (((lcg sd) / 65536) % n)) dX7_next_34 (nne0 (by omega) (by omega)) (nrem (by omega) (by omega) (by omega)) ?_
    refine j_goto (pc := 35) hM 39 dX7_next_35 (by decide) ?_
    exact hret () _ _ _ _ trivial rfl (sI (show (((lcg sd) / 65536) % n) = (lcg sd / 65536 % n) from by first | rfl | omega | (split <;> omega))) rfl dX7_next_39
set_option maxHeartbeats 4000000 in
set_option maxRecDepth 100000 in
theorem c_X7_pass (l : Launch) (D : va_G) (cy : ClassId) (p : Nat) (eS : Nat) (sd : Nat) (fl : Nat) (e : S3) (o : Nat) (aH : Nat) (aW : Nat) (aD : Nat) (aK : Nat) (aM : Nat) (aA : Nat) (aT : Nat) (aS : Nat) (ns : Nat) (nb : Nat) (na : Nat) (tm : Nat) (sn : Nat) (h : Nat → Nat) (w : Nat → Nat) (d : Nat → Nat) (k : Nat → Nat) (m : Nat → Nat) (s : S3) (n0 : Nat) (sd1 : Nat) (ok : okB ns nb h w d) (okk : okK na k m) (oks : okS s) (hna : 0 < na) (hn0 : n0 ≤ 60) (hsd1 : sd1 < 2147483648) : Ct (σ := Unit) l D cy yX7_pass cX7_pass 5 none { frames := 3, cells := 0, slots := 0, locals := 61 } [.ref p, .ref o, .int (nI n0), .int (nI sd1)] [(p, .inr (7, [.ref eS, .int (nI sd), .int (nI fl)])), (eS, .inr (6, [.int (nI e.1), .int (nI e.2.1), .int (nI e.2.2)])), (o, .inr (8, [.ref aH, .ref aW, .ref aD, .ref aK, .ref aM, .ref aA, .ref aT, .ref aS, .int (nI ns), .int (nI nb), .int (nI na), .int (nI tm), .int (nI sn)])), (aH, arC cy 8 h), (aW, arC cy 3 w), (aD, arC cy 3 d), (aK, arC cy 5 k), (aM, arC cy 5 m), (aS, .inr (6, [.int (nI s.1), .int (nI s.2.1), .int (nI s.2.2)]))] (fun _ => True) (fun _ => none) (fun _ => [(p, .inr (7, [.ref eS, .int (nI ((srun k m h w d na nb (s, sd1, 0) n0).2.1)), .int (nI ((srun k m h w d na nb (s, sd1, 0) n0).2.2))])), (eS, .inr (6, [.int (nI (((srun k m h w d na nb (s, sd1, 0) n0).1).1)), .int (nI (((srun k m h w d na nb (s, sd1, 0) n0).1).2.1)), .int (nI (((srun k m h w d na nb (s, sd1, 0) n0).1).2.2))])), (o, .inr (8, [.ref aH, .ref aW, .ref aD, .ref aK, .ref aM, .ref aA, .ref aT, .ref aS, .int (nI ns), .int (nI nb), .int (nI na), .int (nI tm), .int (nI sn)])), (aH, arC cy 8 h), (aW, arC cy 3 w), (aD, arC cy 3 d), (aK, arC cy 5 k), (aM, arC cy 5 m), (aS, .inr (6, [.int (nI s.1), .int (nI s.2.1), .int (nI s.2.2)]))]) := by
  refine Ct_ofV (by decide) (lb rfl) [(0, .ref p), (1, .ref o), (2, .int (nI n0)), (3, .int (nI sd1))] rfl (fun G hM hret => ?_)
  obtain ⟨k1, k2, k3⟩ := id okk
  refine j_aload_n (pc := 0) hM dX7_pass_0 rfl 0 rfl ?_
  refine j_get (pc := 1) hM fd_X7_10 0 rfl rfl dX7_pass_1 ?_
  refine j_aload_n (pc := 4) hM dX7_pass_4 rfl 1 rfl ?_
  refine j_get (pc := 5) hM fd_X7_23 2 rfl rfl dX7_pass_5 ?_
  refine j_callV (pc := 8) hM cv_X7_26 (As := [.ref aS]) (rest := []) (b := eS) (c_X6_become l D cy eS aS e s oks) ⟨lb rfl, lb rfl, lb rfl, lb rfl⟩ rfl 1 rfl rfl [1, 8] [0, 2, 3, 4, 5, 6, 7] [0, 7, 1, 2, 3, 4, 5, 6, 8] [(p, .inr (7, [.ref eS, .int (nI sd), .int (nI fl)])), (o, .inr (8, [.ref aH, .ref aW, .ref aD, .ref aK, .ref aM, .ref aA, .ref aT, .ref aS, .int (nI ns), .int (nI nb), .int (nI na), .int (nI tm), .int (nI sn)])), (aH, arC cy 8 h), (aW, arC cy 3 w), (aD, arC cy 3 d), (aK, arC cy 5 k), (aM, arC cy 5 m)] (fun _ => [(p, .inr (7, [.ref eS, .int (nI sd), .int (nI fl)])), (eS, .inr (6, [.int (nI s.1), .int (nI s.2.1), .int (nI s.2.2)])), (o, .inr (8, [.ref aH, .ref aW, .ref aD, .ref aK, .ref aM, .ref aA, .ref aT, .ref aS, .int (nI ns), .int (nI nb), .int (nI na), .int (nI tm), .int (nI sn)])), (aH, arC cy 8 h), (aW, arC cy 3 w), (aD, arC cy 3 d), (aK, arC cy 5 k), (aM, arC cy 5 m), (aS, .inr (6, [.int (nI s.1), .int (nI s.2.1), .int (nI s.2.2)]))]) rfl (by decide) rfl (by decide) (by decide) (by decide) (fun _ => rfl) (lb rfl) dX7_pass_8 hM.two (fun _ _ => ?_)
  show G [(p, .inr (7, [.ref eS, .int (nI sd), .int (nI fl)])), (eS, .inr (6, [.int (nI s.1), .int (nI s.2.1), .int (nI s.2.2)])), (o, .inr (8, [.ref aH, .ref aW, .ref aD, .ref aK, .ref aM, .ref aA, .ref aT, .ref aS, .int (nI ns), .int (nI nb), .int (nI na), .int (nI tm), .int (nI sn)])), (aH, arC cy 8 h), (aW, arC cy 3 w), (aD, arC cy 3 d), (aK, arC cy 5 k), (aM, arC cy 5 m), (aS, .inr (6, [.int (nI s.1), .int (nI s.2.1), .int (nI s.2.2)]))] [(0, .ref p), (1, .ref o), (2, .int (nI n0)), (3, .int (nI sd1))] 11 []
  refine j_aload_n (pc := 11) hM dX7_pass_11 rfl 0 rfl ?_
  refine j_iload_n (pc := 12) hM dX7_pass_12 rfl 3 rfl ?_
  refine j_put (pc := 13) hM fp_X7_16 [(p, .inr (7, [.ref eS, .int (nI sd1), .int (nI fl)])), (eS, .inr (6, [.int (nI s.1), .int (nI s.2.1), .int (nI s.2.2)])), (o, .inr (8, [.ref aH, .ref aW, .ref aD, .ref aK, .ref aM, .ref aA, .ref aT, .ref aS, .int (nI ns), .int (nI nb), .int (nI na), .int (nI tm), .int (nI sn)])), (aH, arC cy 8 h), (aW, arC cy 3 w), (aD, arC cy 3 d), (aK, arC cy 5 k), (aM, arC cy 5 m), (aS, .inr (6, [.int (nI s.1), .int (nI s.2.1), .int (nI s.2.2)]))] 0 rfl (lb rfl) rfl rfl rfl dX7_pass_13 ?_
  refine j_aload_n (pc := 16) hM dX7_pass_16 rfl 0 rfl ?_
  refine j_iconst (pc := 17) hM (v := nI 0) dX7_pass_17 (by decide) ?_
  refine j_put (pc := 18) hM fp_X7_20 [(p, .inr (7, [.ref eS, .int (nI sd1), .int (nI 0)])), (eS, .inr (6, [.int (nI s.1), .int (nI s.2.1), .int (nI s.2.2)])), (o, .inr (8, [.ref aH, .ref aW, .ref aD, .ref aK, .ref aM, .ref aA, .ref aT, .ref aS, .int (nI ns), .int (nI nb), .int (nI na), .int (nI tm), .int (nI sn)])), (aH, arC cy 8 h), (aW, arC cy 3 w), (aD, arC cy 3 d), (aK, arC cy 5 k), (aM, arC cy 5 m), (aS, .inr (6, [.int (nI s.1), .int (nI s.2.1), .int (nI s.2.2)]))] 0 rfl (lb rfl) rfl rfl rfl dX7_pass_18 ?_
  refine j_iconst (pc := 21) hM (v := nI 0) dX7_pass_21 (by decide) ?_
  refine j_istore (pc := 22) hM [(4, .int (nI 0)), (0, .ref p), (1, .ref o), (2, .int (nI n0)), (3, .int (nI sd1))] dX7_pass_22 (by decide) rfl ?_
  have L24 : ∀ (n24 : Nat) (i : Nat) (e : S3) (sd : Nat) (fl : Nat), (i ≤ n0) → ((e, sd, fl) = srun k m h w d na nb (s, sd1, 0) i) → (okS e) → (sd < 2147483648) → (n0 - i) < n24 → G [(p, .inr (7, [.ref eS, .int (nI sd), .int (nI fl)])), (eS, .inr (6, [.int (nI e.1), .int (nI e.2.1), .int (nI e.2.2)])), (o, .inr (8, [.ref aH, .ref aW, .ref aD, .ref aK, .ref aM, .ref aA, .ref aT, .ref aS, .int (nI ns), .int (nI nb), .int (nI na), .int (nI tm), .int (nI sn)])), (aH, arC cy 8 h), (aW, arC cy 3 w), (aD, arC cy 3 d), (aK, arC cy 5 k), (aM, arC cy 5 m), (aS, .inr (6, [.int (nI s.1), .int (nI s.2.1), .int (nI s.2.2)]))] [(0, .ref p), (1, .ref o), (2, .int (nI n0)), (3, .int (nI sd1)), (4, .int (nI i))] 24 [] := by
    intro n24
    induction n24 with
    | zero => intro i e sd fl hi hq hoe hsd hm24; exact absurd hm24 (Nat.not_lt_zero _)
    | succ n24 ih24 =>
      intro i e sd fl hi hq hoe hsd hm24
      refine j_iload (pc := 24) hM dX7_pass_24 4 rfl ?_
      refine j_iload_n (pc := 26) hM dX7_pass_26 rfl 2 rfl ?_
      refine j_icmp_ge (pc := 27) hM 90 dX7_pass_27 (by decide) (cLE (by omega) (by omega)) (fun c27 => ?_) (fun c27 => ?_)
      · skip
        have hq2 : srun k m h w d na nb (s, sd1, 0) n0 = (e, sd, fl) := by rw [show n0 = i by omega]; exact hq.symm
        exact hret () _ _ _ trivial (eq5 (fun (z0 : Nat) (z1 : Nat) (z2 : Nat) (z3 : Nat) (z4 : Nat) => ([(p, .inr (7, [.ref eS, .int (nI z0), .int (nI z1)])), (eS, .inr (6, [.int (nI z2), .int (nI z3), .int (nI z4)])), (o, .inr (8, [.ref aH, .ref aW, .ref aD, .ref aK, .ref aM, .ref aA, .ref aT, .ref aS, .int (nI ns), .int (nI nb), .int (nI na), .int (nI tm), .int (nI sn)])), (aH, arC cy 8 h), (aW, arC cy 3 w), (aD, arC cy 3 d), (aK, arC cy 5 k), (aM, arC cy 5 m), (aS, .inr (6, [.int (nI s.1), .int (nI s.2.1), .int (nI s.2.2)]))] : va_W)) (show sd = ((srun k m h w d na nb (s, sd1, 0) n0).2.1) from by rw [hq2]) (show fl = ((srun k m h w d na nb (s, sd1, 0) n0).2.2) from by rw [hq2]) (show e.1 = (((srun k m h w d na nb (s, sd1, 0) n0).1).1) from by rw [hq2]) (show e.2.1 = (((srun k m h w d na nb (s, sd1, 0) n0).1).2.1) from by rw [hq2]) (show e.2.2 = (((srun k m h w d na nb (s, sd1, 0) n0).1).2.2) from by rw [hq2])) rfl dX7_pass_90
      · skip
        refine j_aload_n (pc := 30) hM dX7_pass_30 rfl 0 rfl ?_
        refine j_iconst (pc := 31) hM (v := nI 4) dX7_pass_31 (by decide) ?_
        refine j_callV (pc := 32) hM cv_X7_30 (As := [.int (nI 4)]) (rest := []) (b := p) (c_X7_next l D cy p eS sd fl 4 hsd (by decide) (by decide)) ⟨lb rfl, lb rfl, lb rfl, lb rfl⟩ rfl 0 rfl rfl [0] [1, 2, 3, 4, 5, 6, 7, 8] [8, 0, 1, 2, 3, 4, 5, 6, 7] [(eS, .inr (6, [.int (nI e.1), .int (nI e.2.1), .int (nI e.2.2)])), (o, .inr (8, [.ref aH, .ref aW, .ref aD, .ref aK, .ref aM, .ref aA, .ref aT, .ref aS, .int (nI ns), .int (nI nb), .int (nI na), .int (nI tm), .int (nI sn)])), (aH, arC cy 8 h), (aW, arC cy 3 w), (aD, arC cy 3 d), (aK, arC cy 5 k), (aM, arC cy 5 m), (aS, .inr (6, [.int (nI s.1), .int (nI s.2.1), .int (nI s.2.2)]))] (fun _ => [(p, .inr (7, [.ref eS, .int (nI (lcg sd)), .int (nI fl)])), (eS, .inr (6, [.int (nI e.1), .int (nI e.2.1), .int (nI e.2.2)])), (o, .inr (8, [.ref aH, .ref aW, .ref aD, .ref aK, .ref aM, .ref aA, .ref aT, .ref aS, .int (nI ns), .int (nI nb), .int (nI na), .int (nI tm), .int (nI sn)])), (aH, arC cy 8 h), (aW, arC cy 3 w), (aD, arC cy 3 d), (aK, arC cy 5 k), (aM, arC cy 5 m), (aS, .inr (6, [.int (nI s.1), .int (nI s.2.1), .int (nI s.2.2)]))]) rfl (by decide) rfl (by decide) (by decide) (by decide) (fun _ => rfl) (lb rfl) dX7_pass_32 hM.two (fun _ _ => ?_)
        show G [(p, .inr (7, [.ref eS, .int (nI (lcg sd)), .int (nI fl)])), (eS, .inr (6, [.int (nI e.1), .int (nI e.2.1), .int (nI e.2.2)])), (o, .inr (8, [.ref aH, .ref aW, .ref aD, .ref aK, .ref aM, .ref aA, .ref aT, .ref aS, .int (nI ns), .int (nI nb), .int (nI na), .int (nI tm), .int (nI sn)])), (aH, arC cy 8 h), (aW, arC cy 3 w), (aD, arC cy 3 d), (aK, arC cy 5 k), (aM, arC cy 5 m), (aS, .inr (6, [.int (nI s.1), .int (nI s.2.1), .int (nI s.2.2)]))] [(0, .ref p), (1, .ref o), (2, .int (nI n0)), (3, .int (nI sd1)), (4, .int (nI i))] 35 [.int (nI (lcg sd / 65536 % 4))]
        have hm4 := Nat.mod_lt (lcg sd / 65536) (show 0 < 4 by decide)
        refine j_if_ne (pc := 35) hM 48 dX7_pass_35 (by decide) (i0_eq (by omega)) (fun c35 => ?_) (fun c35 => ?_)
        · skip
          refine j_aload_n (pc := 48) hM dX7_pass_48 rfl 1 rfl ?_
          refine j_aload_n (pc := 49) hM dX7_pass_49 rfl 0 rfl ?_
          refine j_aload_n (pc := 50) hM dX7_pass_50 rfl 1 rfl ?_
          refine j_get (pc := 51) hM fd_X7_37 2 rfl rfl dX7_pass_51 ?_
          refine j_callV (pc := 54) hM cv_X7_30 (As := [.int (nI na)]) (rest := [.ref o]) (b := p) (c_X7_next l D cy p eS (lcg sd) fl na (lcg_lt _) hna (by omega)) ⟨lb rfl, lb rfl, lb rfl, lb rfl⟩ rfl 0 rfl rfl [0] [1, 2, 3, 4, 5, 6, 7, 8] [8, 0, 1, 2, 3, 4, 5, 6, 7] [(eS, .inr (6, [.int (nI e.1), .int (nI e.2.1), .int (nI e.2.2)])), (o, .inr (8, [.ref aH, .ref aW, .ref aD, .ref aK, .ref aM, .ref aA, .ref aT, .ref aS, .int (nI ns), .int (nI nb), .int (nI na), .int (nI tm), .int (nI sn)])), (aH, arC cy 8 h), (aW, arC cy 3 w), (aD, arC cy 3 d), (aK, arC cy 5 k), (aM, arC cy 5 m), (aS, .inr (6, [.int (nI s.1), .int (nI s.2.1), .int (nI s.2.2)]))] (fun _ => [(p, .inr (7, [.ref eS, .int (nI (lcg (lcg sd))), .int (nI fl)])), (eS, .inr (6, [.int (nI e.1), .int (nI e.2.1), .int (nI e.2.2)])), (o, .inr (8, [.ref aH, .ref aW, .ref aD, .ref aK, .ref aM, .ref aA, .ref aT, .ref aS, .int (nI ns), .int (nI nb), .int (nI na), .int (nI tm), .int (nI sn)])), (aH, arC cy 8 h), (aW, arC cy 3 w), (aD, arC cy 3 d), (aK, arC cy 5 k), (aM, arC cy 5 m), (aS, .inr (6, [.int (nI s.1), .int (nI s.2.1), .int (nI s.2.2)]))]) rfl (by decide) rfl (by decide) (by decide) (by decide) (fun _ => rfl) (lb rfl) dX7_pass_54 hM.two (fun _ _ => ?_)
          show G [(p, .inr (7, [.ref eS, .int (nI (lcg (lcg sd))), .int (nI fl)])), (eS, .inr (6, [.int (nI e.1), .int (nI e.2.1), .int (nI e.2.2)])), (o, .inr (8, [.ref aH, .ref aW, .ref aD, .ref aK, .ref aM, .ref aA, .ref aT, .ref aS, .int (nI ns), .int (nI nb), .int (nI na), .int (nI tm), .int (nI sn)])), (aH, arC cy 8 h), (aW, arC cy 3 w), (aD, arC cy 3 d), (aK, arC cy 5 k), (aM, arC cy 5 m), (aS, .inr (6, [.int (nI s.1), .int (nI s.2.1), .int (nI s.2.2)]))] [(0, .ref p), (1, .ref o), (2, .int (nI n0)), (3, .int (nI sd1)), (4, .int (nI i))] 57 [.int (nI (lcg (lcg sd) / 65536 % na)), .ref o]
          have hw2 := Nat.mod_lt (lcg (lcg sd) / 65536) hna
          refine j_aload_n (pc := 57) hM dX7_pass_57 rfl 0 rfl ?_
          refine j_get (pc := 58) hM fd_X7_10 0 rfl rfl dX7_pass_58 ?_
          refine j_callV (pc := 61) hM cv_X7_40 (As := [.int (nI (lcg (lcg sd) / 65536 % na)), .ref eS]) (rest := []) (b := o) (c_X8_letAsk l D cy o aH aW aD aK aM aA aT aS ns nb na tm sn k m eS e (lcg (lcg sd) / 65536 % na) okk hoe hw2) ⟨lb rfl, lb rfl, lb rfl, lb rfl⟩ rfl 2 rfl rfl [2, 6, 7, 1] [0, 3, 4, 5, 8] [0, 8, 5, 1, 2, 3, 6, 7, 4] [(p, .inr (7, [.ref eS, .int (nI (lcg (lcg sd))), .int (nI fl)])), (aH, arC cy 8 h), (aW, arC cy 3 w), (aD, arC cy 3 d), (aS, .inr (6, [.int (nI s.1), .int (nI s.2.1), .int (nI s.2.2)]))] (fun _ => [(p, .inr (7, [.ref eS, .int (nI (lcg (lcg sd))), .int (nI fl)])), (eS, .inr (6, [.int (nI ((hear (k (lcg (lcg sd) / 65536 % na)) (m (lcg (lcg sd) / 65536 % na)) e).1)), .int (nI ((hear (k (lcg (lcg sd) / 65536 % na)) (m (lcg (lcg sd) / 65536 % na)) e).2.1)), .int (nI ((hear (k (lcg (lcg sd) / 65536 % na)) (m (lcg (lcg sd) / 65536 % na)) e).2.2))])), (o, .inr (8, [.ref aH, .ref aW, .ref aD, .ref aK, .ref aM, .ref aA, .ref aT, .ref aS, .int (nI ns), .int (nI nb), .int (nI na), .int (nI tm), .int (nI sn)])), (aH, arC cy 8 h), (aW, arC cy 3 w), (aD, arC cy 3 d), (aK, arC cy 5 k), (aM, arC cy 5 m), (aS, .inr (6, [.int (nI s.1), .int (nI s.2.1), .int (nI s.2.2)]))]) rfl (by decide) rfl (by decide) (by decide) (by decide) (fun _ => rfl) (lb rfl) dX7_pass_61 hM.two (fun _ _ => ?_)
          show G [(p, .inr (7, [.ref eS, .int (nI (lcg (lcg sd))), .int (nI fl)])), (eS, .inr (6, [.int (nI ((hear (k (lcg (lcg sd) / 65536 % na)) (m (lcg (lcg sd) / 65536 % na)) e).1)), .int (nI ((hear (k (lcg (lcg sd) / 65536 % na)) (m (lcg (lcg sd) / 65536 % na)) e).2.1)), .int (nI ((hear (k (lcg (lcg sd) / 65536 % na)) (m (lcg (lcg sd) / 65536 % na)) e).2.2))])), (o, .inr (8, [.ref aH, .ref aW, .ref aD, .ref aK, .ref aM, .ref aA, .ref aT, .ref aS, .int (nI ns), .int (nI nb), .int (nI na), .int (nI tm), .int (nI sn)])), (aH, arC cy 8 h), (aW, arC cy 3 w), (aD, arC cy 3 d), (aK, arC cy 5 k), (aM, arC cy 5 m), (aS, .inr (6, [.int (nI s.1), .int (nI s.2.1), .int (nI s.2.2)]))] [(0, .ref p), (1, .ref o), (2, .int (nI n0)), (3, .int (nI sd1)), (4, .int (nI i))] 64 []
          refine j_aload_n (pc := 64) hM dX7_pass_64 rfl 0 rfl ?_
          refine j_dup (pc := 65) hM dX7_pass_65 rfl ?_
          refine j_get (pc := 66) hM fd_X7_20 0 rfl rfl dX7_pass_66 ?_
          refine j_aload_n (pc := 69) hM dX7_pass_69 rfl 1 rfl ?_
          refine j_aload_n (pc := 70) hM dX7_pass_70 rfl 0 rfl ?_
          refine j_get (pc := 71) hM fd_X7_10 0 rfl rfl dX7_pass_71 ?_
          refine j_get (pc := 74) hM fd_X7_44 1 rfl rfl dX7_pass_74 ?_
          refine j_callV (pc := 77) hM cv_X7_47 (As := [.int (nI ((hear (k (lcg (lcg sd) / 65536 % na)) (m (lcg (lcg sd) / 65536 % na)) e).1))]) (rest := [.int (nI fl), .ref p]) (b := o) (c_X8_boatsAfloat l D cy o aH aW aD aK aM aA aT aS ns nb na tm sn h w d ((hear (k (lcg (lcg sd) / 65536 % na)) (m (lcg (lcg sd) / 65536 % na)) e).1) ok (by first | exact Nat.le_trans (ok_thk hoe).1 (by decide) | exact Nat.le_trans (ok_hear hoe).1 (by decide))) ⟨lb rfl, lb rfl, lb rfl, lb rfl⟩ rfl 2 rfl rfl [2, 3, 4, 5] [0, 1, 6, 7, 8] [0, 1, 5, 6, 7, 8, 2, 3, 4] [(p, .inr (7, [.ref eS, .int (nI (lcg (lcg sd))), .int (nI fl)])), (eS, .inr (6, [.int (nI ((hear (k (lcg (lcg sd) / 65536 % na)) (m (lcg (lcg sd) / 65536 % na)) e).1)), .int (nI ((hear (k (lcg (lcg sd) / 65536 % na)) (m (lcg (lcg sd) / 65536 % na)) e).2.1)), .int (nI ((hear (k (lcg (lcg sd) / 65536 % na)) (m (lcg (lcg sd) / 65536 % na)) e).2.2))])), (aK, arC cy 5 k), (aM, arC cy 5 m), (aS, .inr (6, [.int (nI s.1), .int (nI s.2.1), .int (nI s.2.2)]))] (fun _ => [(p, .inr (7, [.ref eS, .int (nI (lcg (lcg sd))), .int (nI fl)])), (eS, .inr (6, [.int (nI ((hear (k (lcg (lcg sd) / 65536 % na)) (m (lcg (lcg sd) / 65536 % na)) e).1)), .int (nI ((hear (k (lcg (lcg sd) / 65536 % na)) (m (lcg (lcg sd) / 65536 % na)) e).2.1)), .int (nI ((hear (k (lcg (lcg sd) / 65536 % na)) (m (lcg (lcg sd) / 65536 % na)) e).2.2))])), (o, .inr (8, [.ref aH, .ref aW, .ref aD, .ref aK, .ref aM, .ref aA, .ref aT, .ref aS, .int (nI ns), .int (nI nb), .int (nI na), .int (nI tm), .int (nI sn)])), (aH, arC cy 8 h), (aW, arC cy 3 w), (aD, arC cy 3 d), (aK, arC cy 5 k), (aM, arC cy 5 m), (aS, .inr (6, [.int (nI s.1), .int (nI s.2.1), .int (nI s.2.2)]))]) rfl (by decide) rfl (by decide) (by decide) (by decide) (fun _ => rfl) (lb rfl) dX7_pass_77 hM.two (fun _ _ => ?_)
          show G [(p, .inr (7, [.ref eS, .int (nI (lcg (lcg sd))), .int (nI fl)])), (eS, .inr (6, [.int (nI ((hear (k (lcg (lcg sd) / 65536 % na)) (m (lcg (lcg sd) / 65536 % na)) e).1)), .int (nI ((hear (k (lcg (lcg sd) / 65536 % na)) (m (lcg (lcg sd) / 65536 % na)) e).2.1)), .int (nI ((hear (k (lcg (lcg sd) / 65536 % na)) (m (lcg (lcg sd) / 65536 % na)) e).2.2))])), (o, .inr (8, [.ref aH, .ref aW, .ref aD, .ref aK, .ref aM, .ref aA, .ref aT, .ref aS, .int (nI ns), .int (nI nb), .int (nI na), .int (nI tm), .int (nI sn)])), (aH, arC cy 8 h), (aW, arC cy 3 w), (aD, arC cy 3 d), (aK, arC cy 5 k), (aM, arC cy 5 m), (aS, .inr (6, [.int (nI s.1), .int (nI s.2.1), .int (nI s.2.2)]))] [(0, .ref p), (1, .ref o), (2, .int (nI n0)), (3, .int (nI sd1)), (4, .int (nI i))] 80 [.int (nI (nfl h w d ((hear (k (lcg (lcg sd) / 65536 % na)) (m (lcg (lcg sd) / 65536 % na)) e).1) nb)), .int (nI fl), .ref p]
          refine j_iadd (pc := 80) hM (v := nI (fl + (nfl h w d ((hear (k (lcg (lcg sd) / 65536 % na)) (m (lcg (lcg sd) / 65536 % na)) e).1) nb))) dX7_pass_80 (nI_add _ _) ?_
          refine j_put (pc := 81) hM fp_X7_20 [(p, .inr (7, [.ref eS, .int (nI (lcg (lcg sd))), .int (nI (fl + (nfl h w d ((hear (k (lcg (lcg sd) / 65536 % na)) (m (lcg (lcg sd) / 65536 % na)) e).1) nb)))])), (eS, .inr (6, [.int (nI ((hear (k (lcg (lcg sd) / 65536 % na)) (m (lcg (lcg sd) / 65536 % na)) e).1)), .int (nI ((hear (k (lcg (lcg sd) / 65536 % na)) (m (lcg (lcg sd) / 65536 % na)) e).2.1)), .int (nI ((hear (k (lcg (lcg sd) / 65536 % na)) (m (lcg (lcg sd) / 65536 % na)) e).2.2))])), (o, .inr (8, [.ref aH, .ref aW, .ref aD, .ref aK, .ref aM, .ref aA, .ref aT, .ref aS, .int (nI ns), .int (nI nb), .int (nI na), .int (nI tm), .int (nI sn)])), (aH, arC cy 8 h), (aW, arC cy 3 w), (aD, arC cy 3 d), (aK, arC cy 5 k), (aM, arC cy 5 m), (aS, .inr (6, [.int (nI s.1), .int (nI s.2.1), .int (nI s.2.2)]))] 0 rfl (lb rfl) rfl rfl rfl dX7_pass_81 ?_
          refine j_iinc (pc := 84) hM (n' := 4) [(4, .int (nI (i + 1))), (0, .ref p), (1, .ref o), (2, .int (nI n0)), (3, .int (nI sd1))] dX7_pass_84 rfl (nI_add _ 1) (by decide) rfl ?_
          refine j_goto (pc := 87) hM 24 dX7_pass_87 (by decide) ?_
          refine j_lv (pc := 24) hM [1, 2, 3, 4, 0] rfl ?_
          exact ih24 (i + 1) (hear (k (lcg (lcg sd) / 65536 % na)) (m (lcg (lcg sd) / 65536 % na)) e) (lcg (lcg sd)) (fl + (nfl h w d ((hear (k (lcg (lcg sd) / 65536 % na)) (m (lcg (lcg sd) / 65536 % na)) e).1) nb)) (by omega) (by show _ = sst _ _ _ _ _ _ _ (srun _ _ _ _ _ _ _ _ i); rw [← hq]; simp [sst, c35]) (by first | exact ok_thk hoe | exact ok_hear hoe) (lcg_lt _) (by omega)
        · skip
          refine j_aload_n (pc := 38) hM dX7_pass_38 rfl 0 rfl ?_
          refine j_get (pc := 39) hM fd_X7_10 0 rfl rfl dX7_pass_39 ?_
          refine j_callV (pc := 42) hM cv_X7_34 (As := []) (rest := []) (b := eS) (c_X6_hearThanks l D cy eS e hoe) ⟨lb rfl, lb rfl, lb rfl, lb rfl⟩ rfl 1 rfl rfl [1] [0, 2, 3, 4, 5, 6, 7, 8] [0, 8, 1, 2, 3, 4, 5, 6, 7] [(p, .inr (7, [.ref eS, .int (nI (lcg sd)), .int (nI fl)])), (o, .inr (8, [.ref aH, .ref aW, .ref aD, .ref aK, .ref aM, .ref aA, .ref aT, .ref aS, .int (nI ns), .int (nI nb), .int (nI na), .int (nI tm), .int (nI sn)])), (aH, arC cy 8 h), (aW, arC cy 3 w), (aD, arC cy 3 d), (aK, arC cy 5 k), (aM, arC cy 5 m), (aS, .inr (6, [.int (nI s.1), .int (nI s.2.1), .int (nI s.2.2)]))] (fun _ => [(p, .inr (7, [.ref eS, .int (nI (lcg sd)), .int (nI fl)])), (eS, .inr (6, [.int (nI ((thk e).1)), .int (nI ((thk e).2.1)), .int (nI ((thk e).2.2))])), (o, .inr (8, [.ref aH, .ref aW, .ref aD, .ref aK, .ref aM, .ref aA, .ref aT, .ref aS, .int (nI ns), .int (nI nb), .int (nI na), .int (nI tm), .int (nI sn)])), (aH, arC cy 8 h), (aW, arC cy 3 w), (aD, arC cy 3 d), (aK, arC cy 5 k), (aM, arC cy 5 m), (aS, .inr (6, [.int (nI s.1), .int (nI s.2.1), .int (nI s.2.2)]))]) rfl (by decide) rfl (by decide) (by decide) (by decide) (fun _ => rfl) (lb rfl) dX7_pass_42 hM.two (fun _ _ => ?_)
          show G [(p, .inr (7, [.ref eS, .int (nI (lcg sd)), .int (nI fl)])), (eS, .inr (6, [.int (nI ((thk e).1)), .int (nI ((thk e).2.1)), .int (nI ((thk e).2.2))])), (o, .inr (8, [.ref aH, .ref aW, .ref aD, .ref aK, .ref aM, .ref aA, .ref aT, .ref aS, .int (nI ns), .int (nI nb), .int (nI na), .int (nI tm), .int (nI sn)])), (aH, arC cy 8 h), (aW, arC cy 3 w), (aD, arC cy 3 d), (aK, arC cy 5 k), (aM, arC cy 5 m), (aS, .inr (6, [.int (nI s.1), .int (nI s.2.1), .int (nI s.2.2)]))] [(0, .ref p), (1, .ref o), (2, .int (nI n0)), (3, .int (nI sd1)), (4, .int (nI i))] 45 []
          refine j_goto (pc := 45) hM 64 dX7_pass_45 (by decide) ?_
          refine j_aload_n (pc := 64) hM dX7_pass_64 rfl 0 rfl ?_
          refine j_dup (pc := 65) hM dX7_pass_65 rfl ?_
          refine j_get (pc := 66) hM fd_X7_20 0 rfl rfl dX7_pass_66 ?_
          refine j_aload_n (pc := 69) hM dX7_pass_69 rfl 1 rfl ?_
          refine j_aload_n (pc := 70) hM dX7_pass_70 rfl 0 rfl ?_
          refine j_get (pc := 71) hM fd_X7_10 0 rfl rfl dX7_pass_71 ?_
          refine j_get (pc := 74) hM fd_X7_44 1 rfl rfl dX7_pass_74 ?_
          refine j_callV (pc := 77) hM cv_X7_47 (As := [.int (nI ((thk e).1))]) (rest := [.int (nI fl), .ref p]) (b := o) (c_X8_boatsAfloat l D cy o aH aW aD aK aM aA aT aS ns nb na tm sn h w d ((thk e).1) ok (by first | exact Nat.le_trans (ok_thk hoe).1 (by decide) | exact Nat.le_trans (ok_hear hoe).1 (by decide))) ⟨lb rfl, lb rfl, lb rfl, lb rfl⟩ rfl 2 rfl rfl [2, 3, 4, 5] [0, 1, 6, 7, 8] [0, 1, 5, 6, 7, 8, 2, 3, 4] [(p, .inr (7, [.ref eS, .int (nI (lcg sd)), .int (nI fl)])), (eS, .inr (6, [.int (nI ((thk e).1)), .int (nI ((thk e).2.1)), .int (nI ((thk e).2.2))])), (aK, arC cy 5 k), (aM, arC cy 5 m), (aS, .inr (6, [.int (nI s.1), .int (nI s.2.1), .int (nI s.2.2)]))] (fun _ => [(p, .inr (7, [.ref eS, .int (nI (lcg sd)), .int (nI fl)])), (eS, .inr (6, [.int (nI ((thk e).1)), .int (nI ((thk e).2.1)), .int (nI ((thk e).2.2))])), (o, .inr (8, [.ref aH, .ref aW, .ref aD, .ref aK, .ref aM, .ref aA, .ref aT, .ref aS, .int (nI ns), .int (nI nb), .int (nI na), .int (nI tm), .int (nI sn)])), (aH, arC cy 8 h), (aW, arC cy 3 w), (aD, arC cy 3 d), (aK, arC cy 5 k), (aM, arC cy 5 m), (aS, .inr (6, [.int (nI s.1), .int (nI s.2.1), .int (nI s.2.2)]))]) rfl (by decide) rfl (by decide) (by decide) (by decide) (fun _ => rfl) (lb rfl) dX7_pass_77 hM.two (fun _ _ => ?_)
          show G [(p, .inr (7, [.ref eS, .int (nI (lcg sd)), .int (nI fl)])), (eS, .inr (6, [.int (nI ((thk e).1)), .int (nI ((thk e).2.1)), .int (nI ((thk e).2.2))])), (o, .inr (8, [.ref aH, .ref aW, .ref aD, .ref aK, .ref aM, .ref aA, .ref aT, .ref aS, .int (nI ns), .int (nI nb), .int (nI na), .int (nI tm), .int (nI sn)])), (aH, arC cy 8 h), (aW, arC cy 3 w), (aD, arC cy 3 d), (aK, arC cy 5 k), (aM, arC cy 5 m), (aS, .inr (6, [.int (nI s.1), .int (nI s.2.1), .int (nI s.2.2)]))] [(0, .ref p), (1, .ref o), (2, .int (nI n0)), (3, .int (nI sd1)), (4, .int (nI i))] 80 [.int (nI (nfl h w d ((thk e).1) nb)), .int (nI fl), .ref p]
          refine j_iadd (pc := 80) hM (v := nI (fl + (nfl h w d ((thk e).1) nb))) dX7_pass_80 (nI_add _ _) ?_
          refine j_put (pc := 81) hM fp_X7_20 [(p, .inr (7, [.ref eS, .int (nI (lcg sd)), .int (nI (fl + (nfl h w d ((thk e).1) nb)))])), (eS, .inr (6, [.int (nI ((thk e).1)), .int (nI ((thk e).2.1)), .int (nI ((thk e).2.2))])), (o, .inr (8, [.ref aH, .ref aW, .ref aD, .ref aK, .ref aM, .ref aA, .ref aT, .ref aS, .int (nI ns), .int (nI nb), .int (nI na), .int (nI tm), .int (nI sn)])), (aH, arC cy 8 h), (aW, arC cy 3 w), (aD, arC cy 3 d), (aK, arC cy 5 k), (aM, arC cy 5 m), (aS, .inr (6, [.int (nI s.1), .int (nI s.2.1), .int (nI s.2.2)]))] 0 rfl (lb rfl) rfl rfl rfl dX7_pass_81 ?_
          refine j_iinc (pc := 84) hM (n' := 4) [(4, .int (nI (i + 1))), (0, .ref p), (1, .ref o), (2, .int (nI n0)), (3, .int (nI sd1))] dX7_pass_84 rfl (nI_add _ 1) (by decide) rfl ?_
          refine j_goto (pc := 87) hM 24 dX7_pass_87 (by decide) ?_
          refine j_lv (pc := 24) hM [1, 2, 3, 4, 0] rfl ?_
          exact ih24 (i + 1) (thk e) (lcg sd) (fl + (nfl h w d ((thk e).1) nb)) (by omega) (by show _ = sst _ _ _ _ _ _ _ (srun _ _ _ _ _ _ _ _ i); rw [← hq]; simp [sst, c35]) (by first | exact ok_thk hoe | exact ok_hear hoe) (lcg_lt _) (by omega)
  refine j_lv (pc := 24) hM [1, 2, 3, 4, 0] rfl ?_
  exact L24 _ 0 s sd1 0 (by omega) rfl oks hsd1 (Nat.lt_succ_self _)
set_option maxHeartbeats 4000000 in
set_option maxRecDepth 100000 in
theorem c_X9_isTide (l : Launch) (D : va_G) (cy : ClassId) (x : Int32) : Ct (σ := Unit) l D cy yX9_isTide cX9_isTide 1 (some .boolean) { frames := 0, cells := 0, slots := 0, locals := 0 } [.int x] [] (fun _ => True) (fun _ => some (.int (nI (if 0 ≤ x.toInt ∧ x.toInt ≤ 20 then 1 else 0)))) (fun _ => []) := by
  refine Ct_ofI (by decide) (lb rfl) [(0, .int x)] rfl (fun G hM hret => ?_)
  refine j_iload_n (pc := 0) hM dX9_isTide_0 rfl 0 rfl ?_
  refine j_if_lt (pc := 1) hM 14 dX9_isTide_1 (by decide) z0_lt (fun c1 => ?_) (fun c1 => ?_)
  · skip
    refine j_iconst (pc := 14) hM (v := nI 0) dX9_isTide_14 (by decide) ?_
    exact hret () _ _ _ _ trivial rfl (sI (show 0 = (if 0 ≤ x.toInt ∧ x.toInt ≤ 20 then 1 else 0) from by first | rfl | omega | (rw [if_pos (by omega)]) | (rw [if_neg (by omega)]))) rfl dX9_isTide_15
  · skip
    refine j_iload_n (pc := 4) hM dX9_isTide_4 rfl 0 rfl ?_
    refine j_bipush (pc := 5) hM (v := nI 20) dX9_isTide_5 (by decide) ?_
    refine j_icmp_gt (pc := 7) hM 14 dX9_isTide_7 (by decide) (zGT (by omega)) (fun c7 => ?_) (fun c7 => ?_)
    · skip
      refine j_iconst (pc := 14) hM (v := nI 0) dX9_isTide_14 (by decide) ?_
      exact hret () _ _ _ _ trivial rfl (sI (show 0 = (if 0 ≤ x.toInt ∧ x.toInt ≤ 20 then 1 else 0) from by first | rfl | omega | (rw [if_pos (by omega)]) | (rw [if_neg (by omega)]))) rfl dX9_isTide_15
    · skip
      refine j_iconst (pc := 10) hM (v := nI 1) dX9_isTide_10 (by decide) ?_
      refine j_goto (pc := 11) hM 15 dX9_isTide_11 (by decide) ?_
      exact hret () _ _ _ _ trivial rfl (sI (show 1 = (if 0 ≤ x.toInt ∧ x.toInt ≤ 20 then 1 else 0) from by first | rfl | omega | (rw [if_pos (by omega)]) | (rw [if_neg (by omega)]))) rfl dX9_isTide_15
set_option maxHeartbeats 4000000 in
set_option maxRecDepth 100000 in
theorem c_X2_seaAfter (l : Launch) (D : va_G) (cy : ClassId) (p : Nat) (eS : Nat) (eF : Nat) (lf : Nat) (ut : Nat) (lw : Nat) (e : S3) (o : Nat) (aH : Nat) (aW : Nat) (aD : Nat) (aK : Nat) (aM : Nat) (aA : Nat) (aT : Nat) (aS : Nat) (ns : Nat) (nb : Nat) (na : Nat) (tm : Nat) (sn : Nat) (k : Nat → Nat) (s : S3) (a : Nat) (mm : Nat) (hna : na ≤ 5) (hkk : ∀ i, i < na → k i ≤ 4) (oks : okS s) (ha : a < na) (hmm : mm ≤ 9) : Ct (σ := Unit) l D cy yX2_seaAfter cX2_seaAfter 4 (some (.object "TideAsked$Sea")) { frames := 2, cells := 0, slots := 0, locals := 39 } [.ref p, .ref o, .int (nI a), .int (nI mm)] [(p, .inr (2, [.ref eS, .ref eF, .int (nI lf), .int (nI ut), .int (nI lw)])), (eS, .inr (6, [.int (nI e.1), .int (nI e.2.1), .int (nI e.2.2)])), (o, .inr (8, [.ref aH, .ref aW, .ref aD, .ref aK, .ref aM, .ref aA, .ref aT, .ref aS, .int (nI ns), .int (nI nb), .int (nI na), .int (nI tm), .int (nI sn)])), (aK, arC cy 5 k), (aS, .inr (6, [.int (nI s.1), .int (nI s.2.1), .int (nI s.2.2)]))] (fun _ => True) (fun _ => some (.ref eS)) (fun _ => [(p, .inr (2, [.ref eS, .ref eF, .int (nI lf), .int (nI ut), .int (nI lw)])), (eS, .inr (6, [.int (nI ((hear (k a) mm s).1)), .int (nI ((hear (k a) mm s).2.1)), .int (nI ((hear (k a) mm s).2.2))])), (o, .inr (8, [.ref aH, .ref aW, .ref aD, .ref aK, .ref aM, .ref aA, .ref aT, .ref aS, .int (nI ns), .int (nI nb), .int (nI na), .int (nI tm), .int (nI sn)])), (aK, arC cy 5 k), (aS, .inr (6, [.int (nI s.1), .int (nI s.2.1), .int (nI s.2.2)]))]) := by
  refine Ct_ofR (by decide) (lb rfl) [(0, .ref p), (1, .ref o), (2, .int (nI a)), (3, .int (nI mm))] rfl (fun G hM hret => ?_)
  refine j_aload_n (pc := 0) hM dX2_seaAfter_0 rfl 0 rfl ?_
  refine j_get (pc := 1) hM fd_X2_12 0 rfl rfl dX2_seaAfter_1 ?_
  refine j_aload_n (pc := 4) hM dX2_seaAfter_4 rfl 1 rfl ?_
  refine j_get (pc := 5) hM fd_X2_32 2 rfl rfl dX2_seaAfter_5 ?_
  refine j_callV (pc := 8) hM cv_X2_35 (As := [.ref aS]) (rest := []) (b := eS) (c_X6_become l D cy eS aS e s oks) ⟨lb rfl, lb rfl, lb rfl, lb rfl⟩ rfl 1 rfl rfl [1, 4] [0, 2, 3] [0, 3, 1, 2, 4] [(p, .inr (2, [.ref eS, .ref eF, .int (nI lf), .int (nI ut), .int (nI lw)])), (o, .inr (8, [.ref aH, .ref aW, .ref aD, .ref aK, .ref aM, .ref aA, .ref aT, .ref aS, .int (nI ns), .int (nI nb), .int (nI na), .int (nI tm), .int (nI sn)])), (aK, arC cy 5 k)] (fun _ => [(p, .inr (2, [.ref eS, .ref eF, .int (nI lf), .int (nI ut), .int (nI lw)])), (eS, .inr (6, [.int (nI s.1), .int (nI s.2.1), .int (nI s.2.2)])), (o, .inr (8, [.ref aH, .ref aW, .ref aD, .ref aK, .ref aM, .ref aA, .ref aT, .ref aS, .int (nI ns), .int (nI nb), .int (nI na), .int (nI tm), .int (nI sn)])), (aK, arC cy 5 k), (aS, .inr (6, [.int (nI s.1), .int (nI s.2.1), .int (nI s.2.2)]))]) rfl (by decide) rfl (by decide) (by decide) (by decide) (fun _ => rfl) (lb rfl) dX2_seaAfter_8 hM.two (fun _ _ => ?_)
  show G [(p, .inr (2, [.ref eS, .ref eF, .int (nI lf), .int (nI ut), .int (nI lw)])), (eS, .inr (6, [.int (nI s.1), .int (nI s.2.1), .int (nI s.2.2)])), (o, .inr (8, [.ref aH, .ref aW, .ref aD, .ref aK, .ref aM, .ref aA, .ref aT, .ref aS, .int (nI ns), .int (nI nb), .int (nI na), .int (nI tm), .int (nI sn)])), (aK, arC cy 5 k), (aS, .inr (6, [.int (nI s.1), .int (nI s.2.1), .int (nI s.2.2)]))] [(0, .ref p), (1, .ref o), (2, .int (nI a)), (3, .int (nI mm))] 11 []
  refine j_aload_n (pc := 11) hM dX2_seaAfter_11 rfl 1 rfl ?_
  refine j_iload_n (pc := 12) hM dX2_seaAfter_12 rfl 2 rfl ?_
  refine j_callV (pc := 13) hM cv_X2_39 (As := [.int (nI a)]) (rest := []) (b := o) (c_X8_hasAsker l D cy o aH aW aD aK aM aA aT aS ns nb na tm sn (nI a) (by omega)) ⟨lb rfl, lb rfl, lb rfl, lb rfl⟩ rfl 2 rfl rfl [2] [0, 1, 3, 4] [0, 1, 4, 2, 3] [(p, .inr (2, [.ref eS, .ref eF, .int (nI lf), .int (nI ut), .int (nI lw)])), (eS, .inr (6, [.int (nI s.1), .int (nI s.2.1), .int (nI s.2.2)])), (aK, arC cy 5 k), (aS, .inr (6, [.int (nI s.1), .int (nI s.2.1), .int (nI s.2.2)]))] (fun _ => [(p, .inr (2, [.ref eS, .ref eF, .int (nI lf), .int (nI ut), .int (nI lw)])), (eS, .inr (6, [.int (nI s.1), .int (nI s.2.1), .int (nI s.2.2)])), (o, .inr (8, [.ref aH, .ref aW, .ref aD, .ref aK, .ref aM, .ref aA, .ref aT, .ref aS, .int (nI ns), .int (nI nb), .int (nI na), .int (nI tm), .int (nI sn)])), (aK, arC cy 5 k), (aS, .inr (6, [.int (nI s.1), .int (nI s.2.1), .int (nI s.2.2)]))]) rfl (by decide) rfl (by decide) (by decide) (by decide) (fun _ => rfl) (lb rfl) dX2_seaAfter_13 hM.two (fun _ _ => ?_)
  show G [(p, .inr (2, [.ref eS, .ref eF, .int (nI lf), .int (nI ut), .int (nI lw)])), (eS, .inr (6, [.int (nI s.1), .int (nI s.2.1), .int (nI s.2.2)])), (o, .inr (8, [.ref aH, .ref aW, .ref aD, .ref aK, .ref aM, .ref aA, .ref aT, .ref aS, .int (nI ns), .int (nI nb), .int (nI na), .int (nI tm), .int (nI sn)])), (aK, arC cy 5 k), (aS, .inr (6, [.int (nI s.1), .int (nI s.2.1), .int (nI s.2.2)]))] [(0, .ref p), (1, .ref o), (2, .int (nI a)), (3, .int (nI mm))] 16 [.int (nI (if 0 ≤ (nI a).toInt ∧ (nI a).toInt < (na : Int) then 1 else 0))]
  refine j_if_eqB (pc := 16) (P := (0 ≤ (nI a).toInt ∧ (nI a).toInt < (na : Int))) hM 33 dX2_seaAfter_16 (by decide) b0_eq (fun c16 => ?_) (fun c16 => ?_)
  · skip
    exact absurd (by rw [nti (by omega)]; omega) c16
  · skip
    refine j_aload_n (pc := 19) hM dX2_seaAfter_19 rfl 0 rfl ?_
    refine j_get (pc := 20) hM fd_X2_12 0 rfl rfl dX2_seaAfter_20 ?_
    refine j_aload_n (pc := 23) hM dX2_seaAfter_23 rfl 1 rfl ?_
    refine j_get (pc := 24) hM fd_X2_43 2 rfl rfl dX2_seaAfter_24 ?_
    refine j_iload_n (pc := 27) hM dX2_seaAfter_27 rfl 2 rfl ?_
    refine j_ldN (pc := 28) hM (v := k a) 3 rfl (by omega) (by decide) rfl dX2_seaAfter_28 ?_
    have b28 := hkk a (by omega)
    refine j_iload_n (pc := 29) hM dX2_seaAfter_29 rfl 3 rfl ?_
    refine j_callV (pc := 30) hM cv_X2_46 (As := [.int (nI (k a)), .int (nI mm)]) (rest := []) (b := eS) (c_X6_hear l D cy eS (k a) mm s (by first | assumption | omega) (by first | assumption | omega) oks) ⟨lb rfl, lb rfl, lb rfl, lb rfl⟩ rfl 1 rfl rfl [1] [0, 2, 3, 4] [0, 4, 1, 2, 3] [(p, .inr (2, [.ref eS, .ref eF, .int (nI lf), .int (nI ut), .int (nI lw)])), (o, .inr (8, [.ref aH, .ref aW, .ref aD, .ref aK, .ref aM, .ref aA, .ref aT, .ref aS, .int (nI ns), .int (nI nb), .int (nI na), .int (nI tm), .int (nI sn)])), (aK, arC cy 5 k), (aS, .inr (6, [.int (nI s.1), .int (nI s.2.1), .int (nI s.2.2)]))] (fun _ => [(p, .inr (2, [.ref eS, .ref eF, .int (nI lf), .int (nI ut), .int (nI lw)])), (eS, .inr (6, [.int (nI ((hear (k a) mm s).1)), .int (nI ((hear (k a) mm s).2.1)), .int (nI ((hear (k a) mm s).2.2))])), (o, .inr (8, [.ref aH, .ref aW, .ref aD, .ref aK, .ref aM, .ref aA, .ref aT, .ref aS, .int (nI ns), .int (nI nb), .int (nI na), .int (nI tm), .int (nI sn)])), (aK, arC cy 5 k), (aS, .inr (6, [.int (nI s.1), .int (nI s.2.1), .int (nI s.2.2)]))]) rfl (by decide) rfl (by decide) (by decide) (by decide) (fun _ => rfl) (lb rfl) dX2_seaAfter_30 hM.two (fun _ _ => ?_)
    show G [(p, .inr (2, [.ref eS, .ref eF, .int (nI lf), .int (nI ut), .int (nI lw)])), (eS, .inr (6, [.int (nI ((hear (k a) mm s).1)), .int (nI ((hear (k a) mm s).2.1)), .int (nI ((hear (k a) mm s).2.2))])), (o, .inr (8, [.ref aH, .ref aW, .ref aD, .ref aK, .ref aM, .ref aA, .ref aT, .ref aS, .int (nI ns), .int (nI nb), .int (nI na), .int (nI tm), .int (nI sn)])), (aK, arC cy 5 k), (aS, .inr (6, [.int (nI s.1), .int (nI s.2.1), .int (nI s.2.2)]))] [(0, .ref p), (1, .ref o), (2, .int (nI a)), (3, .int (nI mm))] 33 []
    refine j_aload_n (pc := 33) hM dX2_seaAfter_33 rfl 0 rfl ?_
    refine j_get (pc := 34) hM fd_X2_12 0 rfl rfl dX2_seaAfter_34 ?_
    exact hret () _ _ _ _ trivial rfl rfl dX2_seaAfter_37
set_option maxHeartbeats 4000000 in
set_option maxRecDepth 100000 in
theorem c_X2_weigh (l : Launch) (D : va_G) (cy : ClassId) (p : Nat) (eS : Nat) (eF : Nat) (lf : Nat) (ut : Nat) (lw : Nat) (e : S3) (ff : Nat → Nat) (o : Nat) (aH : Nat) (aW : Nat) (aD : Nat) (aK : Nat) (aM : Nat) (aA : Nat) (aT : Nat) (aS : Nat) (ns : Nat) (nb : Nat) (na : Nat) (tm : Nat) (sn : Nat) (k : Nat → Nat) (fA : Nat → Nat) (fT : Nat → Nat) (s : S3) (a : Nat) (hna : na ≤ 5) (hkk : ∀ i, i < na → k i ≤ 4) (oks : okS s) (ha : a < na) (hsn : sn ≤ 6) (hA : ∀ i, i < sn → fA i < 5) (hT : ∀ i, i < sn → fT i ≤ 20) : Ct (σ := S3) l D cy yX2_weigh cX2_weigh 5 none { frames := 3, cells := 0, slots := 0, locals := 62 } [.ref p, .ref o, .int (nI a)] [(p, .inr (2, [.ref eS, .ref eF, .int (nI lf), .int (nI ut), .int (nI lw)])), (eS, .inr (6, [.int (nI e.1), .int (nI e.2.1), .int (nI e.2.2)])), (eF, arC cy 21 ff), (o, .inr (8, [.ref aH, .ref aW, .ref aD, .ref aK, .ref aM, .ref aA, .ref aT, .ref aS, .int (nI ns), .int (nI nb), .int (nI na), .int (nI tm), .int (nI sn)])), (aK, arC cy 5 k), (aA, arC cy 6 fA), (aT, arC cy 6 fT), (aS, .inr (6, [.int (nI s.1), .int (nI s.2.1), .int (nI s.2.2)]))] (fun u => True) (fun u => none) (fun u => [(p, .inr (2, [.ref eS, .ref eF, .int (nI (gLeft fA fT a sn (k a) s)), .int (nI (gGain fA fT a sn (k a) s)), .int (nI (gWorst fA fT a sn (k a) s))])), (eS, .inr (6, [.int (nI u.1), .int (nI u.2.1), .int (nI u.2.2)])), (eF, arC cy 21 (gC fA fT a sn (k a) s 10)), (o, .inr (8, [.ref aH, .ref aW, .ref aD, .ref aK, .ref aM, .ref aA, .ref aT, .ref aS, .int (nI ns), .int (nI nb), .int (nI na), .int (nI tm), .int (nI sn)])), (aK, arC cy 5 k), (aA, arC cy 6 fA), (aT, arC cy 6 fT), (aS, .inr (6, [.int (nI s.1), .int (nI s.2.1), .int (nI s.2.2)]))]) := by
  refine Ct_ofV (by decide) (lb rfl) [(0, .ref p), (1, .ref o), (2, .int (nI a))] rfl (fun G hM hret => ?_)
  refine j_aload_n (pc := 0) hM dX2_weigh_0 rfl 0 rfl ?_
  refine j_iconst (pc := 1) hM (v := nI 0) dX2_weigh_1 (by decide) ?_
  refine j_put (pc := 2) hM fp_X2_22 [(p, .inr (2, [.ref eS, .ref eF, .int (nI 0), .int (nI ut), .int (nI lw)])), (eS, .inr (6, [.int (nI e.1), .int (nI e.2.1), .int (nI e.2.2)])), (eF, arC cy 21 ff), (o, .inr (8, [.ref aH, .ref aW, .ref aD, .ref aK, .ref aM, .ref aA, .ref aT, .ref aS, .int (nI ns), .int (nI nb), .int (nI na), .int (nI tm), .int (nI sn)])), (aK, arC cy 5 k), (aA, arC cy 6 fA), (aT, arC cy 6 fT), (aS, .inr (6, [.int (nI s.1), .int (nI s.2.1), .int (nI s.2.2)]))] 0 rfl (lb rfl) rfl rfl rfl dX2_weigh_2 ?_
  refine j_aload_n (pc := 5) hM dX2_weigh_5 rfl 0 rfl ?_
  refine j_iconst (pc := 6) hM (v := nI 0) dX2_weigh_6 (by decide) ?_
  refine j_put (pc := 7) hM fp_X2_26 [(p, .inr (2, [.ref eS, .ref eF, .int (nI 0), .int (nI 0), .int (nI lw)])), (eS, .inr (6, [.int (nI e.1), .int (nI e.2.1), .int (nI e.2.2)])), (eF, arC cy 21 ff), (o, .inr (8, [.ref aH, .ref aW, .ref aD, .ref aK, .ref aM, .ref aA, .ref aT, .ref aS, .int (nI ns), .int (nI nb), .int (nI na), .int (nI tm), .int (nI sn)])), (aK, arC cy 5 k), (aA, arC cy 6 fA), (aT, arC cy 6 fT), (aS, .inr (6, [.int (nI s.1), .int (nI s.2.1), .int (nI s.2.2)]))] 0 rfl (lb rfl) rfl rfl rfl dX2_weigh_7 ?_
  refine j_aload_n (pc := 10) hM dX2_weigh_10 rfl 0 rfl ?_
  refine j_iconst (pc := 11) hM (v := nI 0) dX2_weigh_11 (by decide) ?_
  refine j_put (pc := 12) hM fp_X2_29 [(p, .inr (2, [.ref eS, .ref eF, .int (nI 0), .int (nI 0), .int (nI 0)])), (eS, .inr (6, [.int (nI e.1), .int (nI e.2.1), .int (nI e.2.2)])), (eF, arC cy 21 ff), (o, .inr (8, [.ref aH, .ref aW, .ref aD, .ref aK, .ref aM, .ref aA, .ref aT, .ref aS, .int (nI ns), .int (nI nb), .int (nI na), .int (nI tm), .int (nI sn)])), (aK, arC cy 5 k), (aA, arC cy 6 fA), (aT, arC cy 6 fT), (aS, .inr (6, [.int (nI s.1), .int (nI s.2.1), .int (nI s.2.2)]))] 0 rfl (lb rfl) rfl rfl rfl dX2_weigh_12 ?_
  refine j_aload_n (pc := 15) hM dX2_weigh_15 rfl 0 rfl ?_
  refine j_get (pc := 16) hM fd_X2_18 0 rfl rfl dX2_weigh_16 ?_
  refine j_iconst (pc := 19) hM (v := nI 0) dX2_weigh_19 (by decide) ?_
  refine j_callS (pc := 20) hM cs_X2_50 (As := [.ref eF, .int (nI 0)]) (rest := []) (c_J7_fill_53178 l D cy eF 21 0 ff (by decide)) ⟨lb rfl, lb rfl, lb rfl, lb rfl⟩ rfl [2] [0, 1, 3, 4, 5, 6, 7] [0, 1, 7, 2, 3, 4, 5, 6] [(p, .inr (2, [.ref eS, .ref eF, .int (nI 0), .int (nI 0), .int (nI 0)])), (eS, .inr (6, [.int (nI e.1), .int (nI e.2.1), .int (nI e.2.2)])), (o, .inr (8, [.ref aH, .ref aW, .ref aD, .ref aK, .ref aM, .ref aA, .ref aT, .ref aS, .int (nI ns), .int (nI nb), .int (nI na), .int (nI tm), .int (nI sn)])), (aK, arC cy 5 k), (aA, arC cy 6 fA), (aT, arC cy 6 fT), (aS, .inr (6, [.int (nI s.1), .int (nI s.2.1), .int (nI s.2.2)]))] (fun _ => [(p, .inr (2, [.ref eS, .ref eF, .int (nI 0), .int (nI 0), .int (nI 0)])), (eS, .inr (6, [.int (nI e.1), .int (nI e.2.1), .int (nI e.2.2)])), (eF, arC cy 21 (fun _ => 0)), (o, .inr (8, [.ref aH, .ref aW, .ref aD, .ref aK, .ref aM, .ref aA, .ref aT, .ref aS, .int (nI ns), .int (nI nb), .int (nI na), .int (nI tm), .int (nI sn)])), (aK, arC cy 5 k), (aA, arC cy 6 fA), (aT, arC cy 6 fT), (aS, .inr (6, [.int (nI s.1), .int (nI s.2.1), .int (nI s.2.2)]))]) rfl (by decide) rfl (by decide) (by decide) (by decide) (fun _ => rfl) (lb rfl) dX2_weigh_20 hM.two (fun _ _ => ?_)
  show G [(p, .inr (2, [.ref eS, .ref eF, .int (nI 0), .int (nI 0), .int (nI 0)])), (eS, .inr (6, [.int (nI e.1), .int (nI e.2.1), .int (nI e.2.2)])), (eF, arC cy 21 (fun _ => 0)), (o, .inr (8, [.ref aH, .ref aW, .ref aD, .ref aK, .ref aM, .ref aA, .ref aT, .ref aS, .int (nI ns), .int (nI nb), .int (nI na), .int (nI tm), .int (nI sn)])), (aK, arC cy 5 k), (aA, arC cy 6 fA), (aT, arC cy 6 fT), (aS, .inr (6, [.int (nI s.1), .int (nI s.2.1), .int (nI s.2.2)]))] [(0, .ref p), (1, .ref o), (2, .int (nI a))] 23 []
  refine j_iconst (pc := 23) hM (v := nI 0) dX2_weigh_23 (by decide) ?_
  refine j_istore_n (pc := 24) hM [(3, .int (nI 0)), (0, .ref p), (1, .ref o), (2, .int (nI a))] dX2_weigh_24 rfl (by decide) rfl ?_
  have L25 : ∀ (n25 : Nat) (i : Nat) (lf : Nat) (ut : Nat) (lw : Nat) (ff : Nat → Nat) (e : S3), (i ≤ 10) → (∀ t, t < 21 → ff t = gC fA fT a sn (k a) s i t) → (lf = wbits (mP fA fT a sn (k a) s) i) → (ut = wun (gC fA fT a sn (k a) s i) 21) → (lw = mx (gC fA fT a sn (k a) s i) 21) → (10 - i) < n25 → G [(p, .inr (2, [.ref eS, .ref eF, .int (nI lf), .int (nI ut), .int (nI lw)])), (eS, .inr (6, [.int (nI e.1), .int (nI e.2.1), .int (nI e.2.2)])), (eF, arC cy 21 ff), (o, .inr (8, [.ref aH, .ref aW, .ref aD, .ref aK, .ref aM, .ref aA, .ref aT, .ref aS, .int (nI ns), .int (nI nb), .int (nI na), .int (nI tm), .int (nI sn)])), (aK, arC cy 5 k), (aA, arC cy 6 fA), (aT, arC cy 6 fT), (aS, .inr (6, [.int (nI s.1), .int (nI s.2.1), .int (nI s.2.2)]))] [(0, .ref p), (1, .ref o), (2, .int (nI a)), (3, .int (nI i))] 25 [] := by
    intro n25
    induction n25 with
    | zero => intro i lf ut lw ff e hi hff hlf hut hlw hm25; exact absurd hm25 (Nat.not_lt_zero _)
    | succ n25 ih25 =>
      intro i lf ut lw ff e hi hff hlf hut hlw hm25
      have hlw2 : lw ≤ 10 := by rw [hlw]; exact mx_le (fun _ _ => Nat.le_trans wcnt_le (by omega))
      refine j_iload_n (pc := 25) hM dX2_weigh_25 rfl 3 rfl ?_
      refine j_bipush (pc := 26) hM (v := nI 9) dX2_weigh_26 (by decide) ?_
      refine j_icmp_gt (pc := 28) hM 133 dX2_weigh_28 (by decide) (cLT (by omega) (by omega)) (fun c28 => ?_) (fun c28 => ?_)
      · skip
        have hi2 : i = 10 := by omega
        rw [hi2] at hff hlf hut hlw
        refine j_arN (pc := 133) hM [(p, .inr (2, [.ref eS, .ref eF, .int (nI lf), .int (nI ut), .int (nI lw)])), (eS, .inr (6, [.int (nI e.1), .int (nI e.2.1), .int (nI e.2.2)])), (eF, arC cy 21 (gC fA fT a sn (k a) s 10)), (o, .inr (8, [.ref aH, .ref aW, .ref aD, .ref aK, .ref aM, .ref aA, .ref aT, .ref aS, .int (nI ns), .int (nI nb), .int (nI na), .int (nI tm), .int (nI sn)])), (aK, arC cy 5 k), (aA, arC cy 6 fA), (aT, arC cy 6 fT), (aS, .inr (6, [.int (nI s.1), .int (nI s.2.1), .int (nI s.2.2)]))] 2 rfl (fun t ht => hff t ht) rfl ?_
        exact hret e _ _ _ trivial (eq3 (fun (z0 : Nat) (z1 : Nat) (z2 : Nat) => ([(p, .inr (2, [.ref eS, .ref eF, .int (nI z0), .int (nI z1), .int (nI z2)])), (eS, .inr (6, [.int (nI e.1), .int (nI e.2.1), .int (nI e.2.2)])), (eF, arC cy 21 (gC fA fT a sn (k a) s 10)), (o, .inr (8, [.ref aH, .ref aW, .ref aD, .ref aK, .ref aM, .ref aA, .ref aT, .ref aS, .int (nI ns), .int (nI nb), .int (nI na), .int (nI tm), .int (nI sn)])), (aK, arC cy 5 k), (aA, arC cy 6 fA), (aT, arC cy 6 fT), (aS, .inr (6, [.int (nI s.1), .int (nI s.2.1), .int (nI s.2.2)]))] : va_W)) (show lf = (gLeft fA fT a sn (k a) s) from by assumption) (show ut = (gGain fA fT a sn (k a) s) from by assumption) (show lw = (gWorst fA fT a sn (k a) s) from by assumption)) rfl dX2_weigh_133
      · skip
        refine j_aload_n (pc := 31) hM dX2_weigh_31 rfl 0 rfl ?_
        refine j_aload_n (pc := 32) hM dX2_weigh_32 rfl 1 rfl ?_
        refine j_iload_n (pc := 33) hM dX2_weigh_33 rfl 2 rfl ?_
        refine j_iload_n (pc := 34) hM dX2_weigh_34 rfl 3 rfl ?_
        refine j_callV (pc := 35) hM cv_X2_56 (As := [.ref o, .int (nI a), .int (nI i)]) (rest := []) (b := p) (c_X2_seaAfter l D cy p eS eF lf ut lw e o aH aW aD aK aM aA aT aS ns nb na tm sn k s a i hna hkk oks ha (by first | assumption | omega)) ⟨lb rfl, lb rfl, lb rfl, lb rfl⟩ rfl 0 rfl rfl [0, 1, 3, 4, 7] [2, 5, 6] [3, 4, 0, 5, 6, 1, 2, 7] [(eF, arC cy 21 ff), (aA, arC cy 6 fA), (aT, arC cy 6 fT)] (fun _ => [(p, .inr (2, [.ref eS, .ref eF, .int (nI lf), .int (nI ut), .int (nI lw)])), (eS, .inr (6, [.int (nI ((hear (k a) i s).1)), .int (nI ((hear (k a) i s).2.1)), .int (nI ((hear (k a) i s).2.2))])), (eF, arC cy 21 ff), (o, .inr (8, [.ref aH, .ref aW, .ref aD, .ref aK, .ref aM, .ref aA, .ref aT, .ref aS, .int (nI ns), .int (nI nb), .int (nI na), .int (nI tm), .int (nI sn)])), (aK, arC cy 5 k), (aA, arC cy 6 fA), (aT, arC cy 6 fT), (aS, .inr (6, [.int (nI s.1), .int (nI s.2.1), .int (nI s.2.2)]))]) rfl (by decide) rfl (by decide) (by decide) (by decide) (fun _ => rfl) (lb rfl) dX2_weigh_35 hM.two (fun _ _ => ?_)
        show G [(p, .inr (2, [.ref eS, .ref eF, .int (nI lf), .int (nI ut), .int (nI lw)])), (eS, .inr (6, [.int (nI ((hear (k a) i s).1)), .int (nI ((hear (k a) i s).2.1)), .int (nI ((hear (k a) i s).2.2))])), (eF, arC cy 21 ff), (o, .inr (8, [.ref aH, .ref aW, .ref aD, .ref aK, .ref aM, .ref aA, .ref aT, .ref aS, .int (nI ns), .int (nI nb), .int (nI na), .int (nI tm), .int (nI sn)])), (aK, arC cy 5 k), (aA, arC cy 6 fA), (aT, arC cy 6 fT), (aS, .inr (6, [.int (nI s.1), .int (nI s.2.1), .int (nI s.2.2)]))] [(0, .ref p), (1, .ref o), (2, .int (nI a)), (3, .int (nI i))] 38 [.ref eS]
        have hT0 := (ok_hear (k := k a) (m := i) oks).1
        refine j_get (pc := 38) hM fd_X2_60 1 rfl rfl dX2_weigh_38 ?_
        refine j_istore (pc := 41) hM [(4, .int (nI ((hear (k a) i s).1))), (0, .ref p), (1, .ref o), (2, .int (nI a)), (3, .int (nI i))] dX2_weigh_41 (by decide) rfl ?_
        refine j_iload (pc := 43) hM dX2_weigh_43 0 rfl ?_
        refine j_callSN (pc := 45) hM cs_X2_63 (As := [.int (nI ((hear (k a) i s).1))]) (rest := []) (c_X9_isTide l D cy (nI ((hear (k a) i s).1))) ⟨lb rfl, lb rfl, lb rfl, lb rfl⟩ rfl [] [0, 1, 2, 3, 4, 5, 6, 7] [0, 1, 2, 3, 4, 5, 6, 7] [(p, .inr (2, [.ref eS, .ref eF, .int (nI lf), .int (nI ut), .int (nI lw)])), (eS, .inr (6, [.int (nI ((hear (k a) i s).1)), .int (nI ((hear (k a) i s).2.1)), .int (nI ((hear (k a) i s).2.2))])), (eF, arC cy 21 ff), (o, .inr (8, [.ref aH, .ref aW, .ref aD, .ref aK, .ref aM, .ref aA, .ref aT, .ref aS, .int (nI ns), .int (nI nb), .int (nI na), .int (nI tm), .int (nI sn)])), (aK, arC cy 5 k), (aA, arC cy 6 fA), (aT, arC cy 6 fT), (aS, .inr (6, [.int (nI s.1), .int (nI s.2.1), .int (nI s.2.2)]))] (fun _ => [(p, .inr (2, [.ref eS, .ref eF, .int (nI lf), .int (nI ut), .int (nI lw)])), (eS, .inr (6, [.int (nI ((hear (k a) i s).1)), .int (nI ((hear (k a) i s).2.1)), .int (nI ((hear (k a) i s).2.2))])), (eF, arC cy 21 ff), (o, .inr (8, [.ref aH, .ref aW, .ref aD, .ref aK, .ref aM, .ref aA, .ref aT, .ref aS, .int (nI ns), .int (nI nb), .int (nI na), .int (nI tm), .int (nI sn)])), (aK, arC cy 5 k), (aA, arC cy 6 fA), (aT, arC cy 6 fT), (aS, .inr (6, [.int (nI s.1), .int (nI s.2.1), .int (nI s.2.2)]))]) rfl (by decide) rfl (by decide) (by decide) (by decide) (fun _ => rfl) (lb rfl) dX2_weigh_45 hM.two (fun _ _ => ?_)
        show G [(p, .inr (2, [.ref eS, .ref eF, .int (nI lf), .int (nI ut), .int (nI lw)])), (eS, .inr (6, [.int (nI ((hear (k a) i s).1)), .int (nI ((hear (k a) i s).2.1)), .int (nI ((hear (k a) i s).2.2))])), (eF, arC cy 21 ff), (o, .inr (8, [.ref aH, .ref aW, .ref aD, .ref aK, .ref aM, .ref aA, .ref aT, .ref aS, .int (nI ns), .int (nI nb), .int (nI na), .int (nI tm), .int (nI sn)])), (aK, arC cy 5 k), (aA, arC cy 6 fA), (aT, arC cy 6 fT), (aS, .inr (6, [.int (nI s.1), .int (nI s.2.1), .int (nI s.2.2)]))] [(4, .int (nI ((hear (k a) i s).1))), (0, .ref p), (1, .ref o), (2, .int (nI a)), (3, .int (nI i))] 48 [.int (nI (if 0 ≤ (nI ((hear (k a) i s).1)).toInt ∧ (nI ((hear (k a) i s).1)).toInt ≤ 20 then 1 else 0))]
        refine j_if_eqB (pc := 48) (P := (0 ≤ (nI ((hear (k a) i s).1)).toInt ∧ (nI ((hear (k a) i s).1)).toInt ≤ 20)) hM 127 dX2_weigh_48 (by decide) b0_eq (fun c48 => ?_) (fun c48 => ?_)
        · skip
          exact absurd (by rw [nti (by omega)]; omega) c48
        · skip
          refine j_aload_n (pc := 51) hM dX2_weigh_51 rfl 2 rfl ?_
          refine j_iload_n (pc := 52) hM dX2_weigh_52 rfl 3 rfl ?_
          refine j_iload (pc := 53) hM dX2_weigh_53 0 rfl ?_
          refine j_callV (pc := 55) hM cv_X2_66 (As := [.int (nI a), .int (nI ((hear (k a) i s).1))]) (rest := []) (b := o) (c_X8_agreesWithSeen l D cy o aH aW aD aK aM aA aT aS ns nb na tm sn fA fT a ((hear (k a) i s).1) hsn hA hT (by omega) hT0) ⟨lb rfl, lb rfl, lb rfl, lb rfl⟩ rfl 3 rfl rfl [3, 5, 6] [0, 1, 2, 4, 7] [0, 1, 2, 5, 3, 6, 7, 4] [(p, .inr (2, [.ref eS, .ref eF, .int (nI lf), .int (nI ut), .int (nI lw)])), (eS, .inr (6, [.int (nI ((hear (k a) i s).1)), .int (nI ((hear (k a) i s).2.1)), .int (nI ((hear (k a) i s).2.2))])), (eF, arC cy 21 ff), (aK, arC cy 5 k), (aS, .inr (6, [.int (nI s.1), .int (nI s.2.1), .int (nI s.2.2)]))] (fun _ => [(p, .inr (2, [.ref eS, .ref eF, .int (nI lf), .int (nI ut), .int (nI lw)])), (eS, .inr (6, [.int (nI ((hear (k a) i s).1)), .int (nI ((hear (k a) i s).2.1)), .int (nI ((hear (k a) i s).2.2))])), (eF, arC cy 21 ff), (o, .inr (8, [.ref aH, .ref aW, .ref aD, .ref aK, .ref aM, .ref aA, .ref aT, .ref aS, .int (nI ns), .int (nI nb), .int (nI na), .int (nI tm), .int (nI sn)])), (aK, arC cy 5 k), (aA, arC cy 6 fA), (aT, arC cy 6 fT), (aS, .inr (6, [.int (nI s.1), .int (nI s.2.1), .int (nI s.2.2)]))]) rfl (by decide) rfl (by decide) (by decide) (by decide) (fun _ => rfl) (lb rfl) dX2_weigh_55 hM.two (fun _ _ => ?_)
          show G [(p, .inr (2, [.ref eS, .ref eF, .int (nI lf), .int (nI ut), .int (nI lw)])), (eS, .inr (6, [.int (nI ((hear (k a) i s).1)), .int (nI ((hear (k a) i s).2.1)), .int (nI ((hear (k a) i s).2.2))])), (eF, arC cy 21 ff), (o, .inr (8, [.ref aH, .ref aW, .ref aD, .ref aK, .ref aM, .ref aA, .ref aT, .ref aS, .int (nI ns), .int (nI nb), .int (nI na), .int (nI tm), .int (nI sn)])), (aK, arC cy 5 k), (aA, arC cy 6 fA), (aT, arC cy 6 fT), (aS, .inr (6, [.int (nI s.1), .int (nI s.2.1), .int (nI s.2.2)]))] [(4, .int (nI ((hear (k a) i s).1))), (0, .ref p), (1, .ref o), (2, .int (nI a)), (3, .int (nI i))] 58 [.int (nI (if agr fA fT a ((hear (k a) i s).1) sn then 1 else 0))]
          refine j_if_eqB (pc := 58) (P := (agr fA fT a ((hear (k a) i s).1) sn)) hM 127 dX2_weigh_58 (by decide) b0_eq (fun c58 => ?_) (fun c58 => ?_)
          · skip
            refine j_iinc (pc := 127) hM (n' := 4) [(3, .int (nI (i + 1))), (4, .int (nI ((hear (k a) i s).1))), (0, .ref p), (1, .ref o), (2, .int (nI a))] dX2_weigh_127 rfl (nI_add _ 1) (by decide) rfl ?_
            refine j_goto (pc := 130) hM 25 dX2_weigh_130 (by decide) ?_
            refine j_lv (pc := 25) hM [2, 3, 4, 0] rfl ?_
            exact ih25 (i + 1) lf ut lw ff (hear (k a) i s) (by omega) (fun t ht => by first | (rw [gC_no c58]; exact hff t ht) | (rw [gC_yes hag]; by_cases e2 : t = (hear (k a) i s).1; rw [e2, up_eq, up_eq, hf1]; rw [up_ne e2, up_ne e2, hff t ht])) (by first | (rw [wb_no (decide_eq_false c58)]; exact hlf) | (rw [wb_yes (decide_eq_true hag), hlf])) (by first | (rw [gC_no c58]; exact hut) | (rw [gC_yes hag, wun_up (by omega), ← hut, ← hf1, if_pos (by omega)]) | (rw [gC_yes hag, wun_up (by omega), ← hut, ← hf1, if_neg (by omega)])) (by first | (rw [gC_no c58]; exact hlw) | (rw [gC_yes hag, mx_up (by omega), ← hlw, ← hf1])) (by omega)
          · skip
            have hag := c58
            have hf1 := hff (hear (k a) i s).1 (by omega)
            have hf2 : gC fA fT a sn (k a) s i (hear (k a) i s).1 ≤ i := wcnt_le
            refine j_aload_n (pc := 61) hM dX2_weigh_61 rfl 1 rfl ?_
            refine j_dup (pc := 62) hM dX2_weigh_62 rfl ?_
            refine j_get (pc := 63) hM fd_X2_22 0 rfl rfl dX2_weigh_63 ?_
            refine j_iconst (pc := 66) hM (v := nI 1) dX2_weigh_66 (by decide) ?_
            refine j_iload_n (pc := 67) hM dX2_weigh_67 rfl 4 rfl ?_
            refine j_ishl (pc := 68) hM (v := nI (1 * 2 ^ i)) dX2_weigh_68 (nshl (by omega) (by have := Nat.pow_le_pow_right (show 0 < 2 by decide) (show i ≤ 9 by omega); omega)) ?_
            refine j_ior (pc := 69) hM (v := nI (lf ||| (1 * 2 ^ i))) dX2_weigh_69 (nor _ _) ?_
            refine j_put (pc := 70) hM fp_X2_22 [(p, .inr (2, [.ref eS, .ref eF, .int (nI (lf ||| (1 * 2 ^ i))), .int (nI ut), .int (nI lw)])), (eS, .inr (6, [.int (nI ((hear (k a) i s).1)), .int (nI ((hear (k a) i s).2.1)), .int (nI ((hear (k a) i s).2.2))])), (eF, arC cy 21 ff), (o, .inr (8, [.ref aH, .ref aW, .ref aD, .ref aK, .ref aM, .ref aA, .ref aT, .ref aS, .int (nI ns), .int (nI nb), .int (nI na), .int (nI tm), .int (nI sn)])), (aK, arC cy 5 k), (aA, arC cy 6 fA), (aT, arC cy 6 fT), (aS, .inr (6, [.int (nI s.1), .int (nI s.2.1), .int (nI s.2.2)]))] 0 rfl (lb rfl) rfl rfl rfl dX2_weigh_70 ?_
            refine j_aload_n (pc := 73) hM dX2_weigh_73 rfl 1 rfl ?_
            refine j_get (pc := 74) hM fd_X2_18 0 rfl rfl dX2_weigh_74 ?_
            refine j_iload (pc := 77) hM dX2_weigh_77 0 rfl ?_
            refine j_dup2 (pc := 79) hM dX2_weigh_79 rfl rfl ?_
            refine j_ldN (pc := 80) hM (v := ff ((hear (k a) i s).1)) 2 rfl (by omega) (by decide) rfl dX2_weigh_80 ?_
            refine j_iconst (pc := 81) hM (v := nI 1) dX2_weigh_81 (by decide) ?_
            refine j_iadd (pc := 82) hM (v := nI ((ff ((hear (k a) i s).1)) + 1)) dX2_weigh_82 (nI_add _ _) ?_
            refine j_stN (pc := 83) hM [(p, .inr (2, [.ref eS, .ref eF, .int (nI (lf ||| (1 * 2 ^ i))), .int (nI ut), .int (nI lw)])), (eS, .inr (6, [.int (nI ((hear (k a) i s).1)), .int (nI ((hear (k a) i s).2.1)), .int (nI ((hear (k a) i s).2.2))])), (eF, arC cy 21 (va_up ff ((hear (k a) i s).1) ((ff ((hear (k a) i s).1)) + 1))), (o, .inr (8, [.ref aH, .ref aW, .ref aD, .ref aK, .ref aM, .ref aA, .ref aT, .ref aS, .int (nI ns), .int (nI nb), .int (nI na), .int (nI tm), .int (nI sn)])), (aK, arC cy 5 k), (aA, arC cy 6 fA), (aT, arC cy 6 fT), (aS, .inr (6, [.int (nI s.1), .int (nI s.2.1), .int (nI s.2.2)]))] 2 rfl (by omega) (by decide) rfl dX2_weigh_83 ?_
            refine j_aload_n (pc := 84) hM dX2_weigh_84 rfl 1 rfl ?_
            refine j_dup (pc := 85) hM dX2_weigh_85 rfl ?_
            refine j_get (pc := 86) hM fd_X2_26 0 rfl rfl dX2_weigh_86 ?_
            refine j_aload_n (pc := 89) hM dX2_weigh_89 rfl 1 rfl ?_
            refine j_get (pc := 90) hM fd_X2_18 0 rfl rfl dX2_weigh_90 ?_
            refine j_iload (pc := 93) hM dX2_weigh_93 0 rfl ?_
            refine j_ldN (pc := 95) hM (v := ff (hear (k a) i s).1 + 1) 2 rfl (by omega) (by decide) up_eq dX2_weigh_95 ?_
            refine j_iconst (pc := 96) hM (v := nI 1) dX2_weigh_96 (by decide) ?_
            refine j_icmp_ne (pc := 97) hM 104 dX2_weigh_97 (by decide) (cEQ (by omega) (by omega)) (fun c97 => ?_) (fun c97 => ?_)
            · skip
              refine j_iconst (pc := 104) hM (v := nI 0) dX2_weigh_104 (by decide) ?_
              refine j_iadd (pc := 105) hM (v := nI (ut + 0)) dX2_weigh_105 (nI_add _ _) ?_
              refine j_put (pc := 106) hM fp_X2_26 [(p, .inr (2, [.ref eS, .ref eF, .int (nI (lf ||| (1 * 2 ^ i))), .int (nI (ut + 0)), .int (nI lw)])), (eS, .inr (6, [.int (nI ((hear (k a) i s).1)), .int (nI ((hear (k a) i s).2.1)), .int (nI ((hear (k a) i s).2.2))])), (eF, arC cy 21 (va_up ff ((hear (k a) i s).1) ((ff ((hear (k a) i s).1)) + 1))), (o, .inr (8, [.ref aH, .ref aW, .ref aD, .ref aK, .ref aM, .ref aA, .ref aT, .ref aS, .int (nI ns), .int (nI nb), .int (nI na), .int (nI tm), .int (nI sn)])), (aK, arC cy 5 k), (aA, arC cy 6 fA), (aT, arC cy 6 fT), (aS, .inr (6, [.int (nI s.1), .int (nI s.2.1), .int (nI s.2.2)]))] 0 rfl (lb rfl) rfl rfl rfl dX2_weigh_106 ?_
              refine j_aload_n (pc := 109) hM dX2_weigh_109 rfl 1 rfl ?_
              refine j_aload_n (pc := 110) hM dX2_weigh_110 rfl 1 rfl ?_
              refine j_get (pc := 111) hM fd_X2_29 0 rfl rfl dX2_weigh_111 ?_
              refine j_aload_n (pc := 114) hM dX2_weigh_114 rfl 1 rfl ?_
              refine j_get (pc := 115) hM fd_X2_18 0 rfl rfl dX2_weigh_115 ?_
              refine j_iload (pc := 118) hM dX2_weigh_118 0 rfl ?_
              refine j_ldN (pc := 120) hM (v := ff (hear (k a) i s).1 + 1) 2 rfl (by omega) (by decide) up_eq dX2_weigh_120 ?_
              refine j_max (pc := 121) hM (v := nI (max lw (ff (hear (k a) i s).1 + 1))) ml_X2_70 mw_max ⟨lb rfl, lb rfl, lb rfl, lb rfl⟩ dX2_weigh_121 (nmax (by omega) (by omega) rfl) ?_
              refine j_put (pc := 124) hM fp_X2_29 [(p, .inr (2, [.ref eS, .ref eF, .int (nI (lf ||| (1 * 2 ^ i))), .int (nI (ut + 0)), .int (nI (max lw (ff (hear (k a) i s).1 + 1)))])), (eS, .inr (6, [.int (nI ((hear (k a) i s).1)), .int (nI ((hear (k a) i s).2.1)), .int (nI ((hear (k a) i s).2.2))])), (eF, arC cy 21 (va_up ff ((hear (k a) i s).1) ((ff ((hear (k a) i s).1)) + 1))), (o, .inr (8, [.ref aH, .ref aW, .ref aD, .ref aK, .ref aM, .ref aA, .ref aT, .ref aS, .int (nI ns), .int (nI nb), .int (nI na), .int (nI tm), .int (nI sn)])), (aK, arC cy 5 k), (aA, arC cy 6 fA), (aT, arC cy 6 fT), (aS, .inr (6, [.int (nI s.1), .int (nI s.2.1), .int (nI s.2.2)]))] 0 rfl (lb rfl) rfl rfl rfl dX2_weigh_124 ?_
              refine j_iinc (pc := 127) hM (n' := 4) [(3, .int (nI (i + 1))), (4, .int (nI ((hear (k a) i s).1))), (0, .ref p), (1, .ref o), (2, .int (nI a))] dX2_weigh_127 rfl (nI_add _ 1) (by decide) rfl ?_
              refine j_goto (pc := 130) hM 25 dX2_weigh_130 (by decide) ?_
              refine j_lv (pc := 25) hM [2, 3, 4, 0] rfl ?_
              exact ih25 (i + 1) (lf ||| (1 * 2 ^ i)) (ut + 0) (max lw (ff (hear (k a) i s).1 + 1)) (va_up ff ((hear (k a) i s).1) ((ff ((hear (k a) i s).1)) + 1)) (hear (k a) i s) (by omega) (fun t ht => by first | (rw [gC_no c58]; exact hff t ht) | (rw [gC_yes hag]; by_cases e2 : t = (hear (k a) i s).1; rw [e2, up_eq, up_eq, hf1]; rw [up_ne e2, up_ne e2, hff t ht])) (by first | (rw [wb_no (decide_eq_false c58)]; exact hlf) | (rw [wb_yes (decide_eq_true hag), hlf])) (by first | (rw [gC_no c58]; exact hut) | (rw [gC_yes hag, wun_up (by omega), ← hut, ← hf1, if_pos (by omega)]) | (rw [gC_yes hag, wun_up (by omega), ← hut, ← hf1, if_neg (by omega)])) (by first | (rw [gC_no c58]; exact hlw) | (rw [gC_yes hag, mx_up (by omega), ← hlw, ← hf1])) (by omega)
            · skip
              refine j_iconst (pc := 100) hM (v := nI 1) dX2_weigh_100 (by decide) ?_
              refine j_goto (pc := 101) hM 105 dX2_weigh_101 (by decide) ?_
              refine j_iadd (pc := 105) hM (v := nI (ut + 1)) dX2_weigh_105 (nI_add _ _) ?_
              refine j_put (pc := 106) hM fp_X2_26 [(p, .inr (2, [.ref eS, .ref eF, .int (nI (lf ||| (1 * 2 ^ i))), .int (nI (ut + 1)), .int (nI lw)])), (eS, .inr (6, [.int (nI ((hear (k a) i s).1)), .int (nI ((hear (k a) i s).2.1)), .int (nI ((hear (k a) i s).2.2))])), (eF, arC cy 21 (va_up ff ((hear (k a) i s).1) ((ff ((hear (k a) i s).1)) + 1))), (o, .inr (8, [.ref aH, .ref aW, .ref aD, .ref aK, .ref aM, .ref aA, .ref aT, .ref aS, .int (nI ns), .int (nI nb), .int (nI na), .int (nI tm), .int (nI sn)])), (aK, arC cy 5 k), (aA, arC cy 6 fA), (aT, arC cy 6 fT), (aS, .inr (6, [.int (nI s.1), .int (nI s.2.1), .int (nI s.2.2)]))] 0 rfl (lb rfl) rfl rfl rfl dX2_weigh_106 ?_
              refine j_aload_n (pc := 109) hM dX2_weigh_109 rfl 1 rfl ?_
              refine j_aload_n (pc := 110) hM dX2_weigh_110 rfl 1 rfl ?_
              refine j_get (pc := 111) hM fd_X2_29 0 rfl rfl dX2_weigh_111 ?_
              refine j_aload_n (pc := 114) hM dX2_weigh_114 rfl 1 rfl ?_
              refine j_get (pc := 115) hM fd_X2_18 0 rfl rfl dX2_weigh_115 ?_
              refine j_iload (pc := 118) hM dX2_weigh_118 0 rfl ?_
              refine j_ldN (pc := 120) hM (v := ff (hear (k a) i s).1 + 1) 2 rfl (by omega) (by decide) up_eq dX2_weigh_120 ?_
              refine j_max (pc := 121) hM (v := nI (max lw (ff (hear (k a) i s).1 + 1))) ml_X2_70 mw_max ⟨lb rfl, lb rfl, lb rfl, lb rfl⟩ dX2_weigh_121 (nmax (by omega) (by omega) rfl) ?_
              refine j_put (pc := 124) hM fp_X2_29 [(p, .inr (2, [.ref eS, .ref eF, .int (nI (lf ||| (1 * 2 ^ i))), .int (nI (ut + 1)), .int (nI (max lw (ff (hear (k a) i s).1 + 1)))])), (eS, .inr (6, [.int (nI ((hear (k a) i s).1)), .int (nI ((hear (k a) i s).2.1)), .int (nI ((hear (k a) i s).2.2))])), (eF, arC cy 21 (va_up ff ((hear (k a) i s).1) ((ff ((hear (k a) i s).1)) + 1))), (o, .inr (8, [.ref aH, .ref aW, .ref aD, .ref aK, .ref aM, .ref aA, .ref aT, .ref aS, .int (nI ns), .int (nI nb), .int (nI na), .int (nI tm), .int (nI sn)])), (aK, arC cy 5 k), (aA, arC cy 6 fA), (aT, arC cy 6 fT), (aS, .inr (6, [.int (nI s.1), .int (nI s.2.1), .int (nI s.2.2)]))] 0 rfl (lb rfl) rfl rfl rfl dX2_weigh_124 ?_
              refine j_iinc (pc := 127) hM (n' := 4) [(3, .int (nI (i + 1))), (4, .int (nI ((hear (k a) i s).1))), (0, .ref p), (1, .ref o), (2, .int (nI a))] dX2_weigh_127 rfl (nI_add _ 1) (by decide) rfl ?_
              refine j_goto (pc := 130) hM 25 dX2_weigh_130 (by decide) ?_
              refine j_lv (pc := 25) hM [2, 3, 4, 0] rfl ?_
              exact ih25 (i + 1) (lf ||| (1 * 2 ^ i)) (ut + 1) (max lw (ff (hear (k a) i s).1 + 1)) (va_up ff ((hear (k a) i s).1) ((ff ((hear (k a) i s).1)) + 1)) (hear (k a) i s) (by omega) (fun t ht => by first | (rw [gC_no c58]; exact hff t ht) | (rw [gC_yes hag]; by_cases e2 : t = (hear (k a) i s).1; rw [e2, up_eq, up_eq, hf1]; rw [up_ne e2, up_ne e2, hff t ht])) (by first | (rw [wb_no (decide_eq_false c58)]; exact hlf) | (rw [wb_yes (decide_eq_true hag), hlf])) (by first | (rw [gC_no c58]; exact hut) | (rw [gC_yes hag, wun_up (by omega), ← hut, ← hf1, if_pos (by omega)]) | (rw [gC_yes hag, wun_up (by omega), ← hut, ← hf1, if_neg (by omega)])) (by first | (rw [gC_no c58]; exact hlw) | (rw [gC_yes hag, mx_up (by omega), ← hlw, ← hf1])) (by omega)
  refine j_lv (pc := 25) hM [1, 2, 3, 0] rfl ?_
  exact L25 _ 0 0 0 0 (fun _ => 0) e (by omega) (fun _ _ => rfl) rfl ((wun0 (fun _ => rfl)).symm) ((mx0 (fun _ => rfl)).symm) (Nat.lt_succ_self _)
set_option maxHeartbeats 4000000 in
set_option maxRecDepth 100000 in
theorem c_X2_whomToSend (l : Launch) (D : va_G) (cy : ClassId) (p : Nat) (eS : Nat) (eF : Nat) (lf : Nat) (ut : Nat) (lw : Nat) (e : S3) (ff : Nat → Nat) (o : Nat) (aH : Nat) (aW : Nat) (aD : Nat) (aK : Nat) (aM : Nat) (aA : Nat) (aT : Nat) (aS : Nat) (ns : Nat) (nb : Nat) (na : Nat) (tm : Nat) (sn : Nat) (k : Nat → Nat) (fA : Nat → Nat) (fT : Nat → Nat) (s : S3) (hna : na ≤ 5) (hkk : ∀ i, i < na → k i ≤ 4) (oks : okS s) (hsn : sn ≤ 6) (hA : ∀ i, i < sn → fA i < 5) (hT : ∀ i, i < sn → fT i ≤ 20) : Ct (σ := Nat × Nat × Nat × (Nat → Nat) × S3) l D cy yX2_whomToSend cX2_whomToSend 5 (some .int) { frames := 4, cells := 0, slots := 0, locals := 86 } [.ref p, .ref o] [(p, .inr (2, [.ref eS, .ref eF, .int (nI lf), .int (nI ut), .int (nI lw)])), (eS, .inr (6, [.int (nI e.1), .int (nI e.2.1), .int (nI e.2.2)])), (eF, arC cy 21 ff), (o, .inr (8, [.ref aH, .ref aW, .ref aD, .ref aK, .ref aM, .ref aA, .ref aT, .ref aS, .int (nI ns), .int (nI nb), .int (nI na), .int (nI tm), .int (nI sn)])), (aK, arC cy 5 k), (aA, arC cy 6 fA), (aT, arC cy 6 fT), (aS, .inr (6, [.int (nI s.1), .int (nI s.2.1), .int (nI s.2.2)]))] (fun u => True) (fun u => some (.int (nI ((sndR fA fT k sn s na).1)))) (fun u => [(p, .inr (2, [.ref eS, .ref eF, .int (nI u.1), .int (nI u.2.1), .int (nI u.2.2.1)])), (eS, .inr (6, [.int (nI u.2.2.2.2.1), .int (nI u.2.2.2.2.2.1), .int (nI u.2.2.2.2.2.2)])), (eF, arC cy 21 u.2.2.2.1), (o, .inr (8, [.ref aH, .ref aW, .ref aD, .ref aK, .ref aM, .ref aA, .ref aT, .ref aS, .int (nI ns), .int (nI nb), .int (nI na), .int (nI tm), .int (nI sn)])), (aK, arC cy 5 k), (aA, arC cy 6 fA), (aT, arC cy 6 fT), (aS, .inr (6, [.int (nI s.1), .int (nI s.2.1), .int (nI s.2.2)]))]) := by
  refine Ct_ofI (by decide) (lb rfl) [(0, .ref p), (1, .ref o)] rfl (fun G hM hret => ?_)
  refine j_iconst (pc := 0) hM (v := nI 4294967295) dX2_whomToSend_0 (by decide) ?_
  refine j_istore_n (pc := 1) hM [(2, .int (nI 4294967295)), (0, .ref p), (1, .ref o)] dX2_whomToSend_1 rfl (by decide) rfl ?_
  refine j_bipush (pc := 2) hM (v := nI 11) dX2_whomToSend_2 (by decide) ?_
  refine j_istore_n (pc := 4) hM [(3, .int (nI 11)), (2, .int (nI 4294967295)), (0, .ref p), (1, .ref o)] dX2_whomToSend_4 rfl (by decide) rfl ?_
  refine j_iconst (pc := 5) hM (v := nI 0) dX2_whomToSend_5 (by decide) ?_
  refine j_istore (pc := 6) hM [(4, .int (nI 0)), (3, .int (nI 11)), (2, .int (nI 4294967295)), (0, .ref p), (1, .ref o)] dX2_whomToSend_6 (by decide) rfl ?_
  have L8 : ∀ (n8 : Nat) (i : Nat) (wh : Nat) (fe : Nat) (lf : Nat) (ut : Nat) (lw : Nat) (ff : Nat → Nat) (e : S3), (i ≤ na) → ((wh, fe) = sndR fA fT k sn s i) → (na - i) < n8 → G [(p, .inr (2, [.ref eS, .ref eF, .int (nI lf), .int (nI ut), .int (nI lw)])), (eS, .inr (6, [.int (nI e.1), .int (nI e.2.1), .int (nI e.2.2)])), (eF, arC cy 21 ff), (o, .inr (8, [.ref aH, .ref aW, .ref aD, .ref aK, .ref aM, .ref aA, .ref aT, .ref aS, .int (nI ns), .int (nI nb), .int (nI na), .int (nI tm), .int (nI sn)])), (aK, arC cy 5 k), (aA, arC cy 6 fA), (aT, arC cy 6 fT), (aS, .inr (6, [.int (nI s.1), .int (nI s.2.1), .int (nI s.2.2)]))] [(0, .ref p), (1, .ref o), (2, .int (nI wh)), (3, .int (nI fe)), (4, .int (nI i))] 8 [] := by
    intro n8
    induction n8 with
    | zero => intro i wh fe lf ut lw ff e hi hq hm8; exact absurd hm8 (Nat.not_lt_zero _)
    | succ n8 ih8 =>
      intro i wh fe lf ut lw ff e hi hq hm8
      have hfe : fe ≤ 11 := by have z := sndR_le (fA := fA) (fT := fT) (k := k) (sn := sn) (s := s) (n := i); rw [← hq] at z; exact z
      refine j_iload (pc := 8) hM dX2_whomToSend_8 4 rfl ?_
      refine j_aload_n (pc := 10) hM dX2_whomToSend_10 rfl 1 rfl ?_
      refine j_get (pc := 11) hM fd_X2_76 3 rfl rfl dX2_whomToSend_11 ?_
      refine j_icmp_ge (pc := 14) hM 53 dX2_whomToSend_14 (by decide) (cLE (by omega) (by omega)) (fun c14 => ?_) (fun c14 => ?_)
      · skip
        refine j_iload_n (pc := 53) hM dX2_whomToSend_53 rfl 2 rfl ?_
        exact hret (lf, ut, lw, ff, e) _ _ _ _ trivial (eq7 (fun (z0 : Nat) (z1 : Nat) (z2 : Nat) (z3 : Nat) (z4 : Nat) (z5 : Nat) (z6 : Nat → Nat) => ([(p, .inr (2, [.ref eS, .ref eF, .int (nI z0), .int (nI z1), .int (nI z2)])), (eS, .inr (6, [.int (nI z3), .int (nI z4), .int (nI z5)])), (eF, arC cy 21 z6), (o, .inr (8, [.ref aH, .ref aW, .ref aD, .ref aK, .ref aM, .ref aA, .ref aT, .ref aS, .int (nI ns), .int (nI nb), .int (nI na), .int (nI tm), .int (nI sn)])), (aK, arC cy 5 k), (aA, arC cy 6 fA), (aT, arC cy 6 fT), (aS, .inr (6, [.int (nI s.1), .int (nI s.2.1), .int (nI s.2.2)]))] : va_W)) (show lf = ((lf, ut, lw, ff, e).1) from by first | rfl | omega | (split <;> omega)) (show ut = ((lf, ut, lw, ff, e).2.1) from by first | rfl | omega | (split <;> omega)) (show lw = ((lf, ut, lw, ff, e).2.2.1) from by first | rfl | omega | (split <;> omega)) (show e.1 = (((lf, ut, lw, ff, e).2.2.2.2).1) from by first | rfl | omega | (split <;> omega)) (show e.2.1 = (((lf, ut, lw, ff, e).2.2.2.2).2.1) from by first | rfl | omega | (split <;> omega)) (show e.2.2 = (((lf, ut, lw, ff, e).2.2.2.2).2.2) from by first | rfl | omega | (split <;> omega)) (show ff = ((lf, ut, lw, ff, e).2.2.2.1) from by first | rfl | omega | (split <;> omega))) (sI (show wh = ((sndR fA fT k sn s na).1) from by rw [show na = i by omega, ← hq])) rfl dX2_whomToSend_54
      · skip
        refine j_aload_n (pc := 17) hM dX2_whomToSend_17 rfl 0 rfl ?_
        refine j_aload_n (pc := 18) hM dX2_whomToSend_18 rfl 1 rfl ?_
        refine j_iload (pc := 19) hM dX2_whomToSend_19 4 rfl ?_
        refine j_callV (pc := 21) hM cv_X2_79 (As := [.ref o, .int (nI i)]) (rest := []) (b := p) (c_X2_weigh l D cy p eS eF lf ut lw e ff o aH aW aD aK aM aA aT aS ns nb na tm sn k fA fT s i hna hkk oks (by omega) hsn hA hT) ⟨lb rfl, lb rfl, lb rfl, lb rfl⟩ rfl 0 rfl rfl [0, 1, 2, 3, 4, 5, 6, 7] [] [0, 1, 2, 3, 4, 5, 6, 7] [] (fun u21 => [(p, .inr (2, [.ref eS, .ref eF, .int (nI (gLeft fA fT i sn (k i) s)), .int (nI (gGain fA fT i sn (k i) s)), .int (nI (gWorst fA fT i sn (k i) s))])), (eS, .inr (6, [.int (nI u21.1), .int (nI u21.2.1), .int (nI u21.2.2)])), (eF, arC cy 21 (gC fA fT i sn (k i) s 10)), (o, .inr (8, [.ref aH, .ref aW, .ref aD, .ref aK, .ref aM, .ref aA, .ref aT, .ref aS, .int (nI ns), .int (nI nb), .int (nI na), .int (nI tm), .int (nI sn)])), (aK, arC cy 5 k), (aA, arC cy 6 fA), (aT, arC cy 6 fT), (aS, .inr (6, [.int (nI s.1), .int (nI s.2.1), .int (nI s.2.2)]))]) rfl (by decide) rfl (by decide) (by decide) (by decide) (fun _ => rfl) (lb rfl) dX2_whomToSend_21 hM.two (fun u21 _ => ?_)
        show G [(p, .inr (2, [.ref eS, .ref eF, .int (nI (gLeft fA fT i sn (k i) s)), .int (nI (gGain fA fT i sn (k i) s)), .int (nI (gWorst fA fT i sn (k i) s))])), (eS, .inr (6, [.int (nI u21.1), .int (nI u21.2.1), .int (nI u21.2.2)])), (eF, arC cy 21 (gC fA fT i sn (k i) s 10)), (o, .inr (8, [.ref aH, .ref aW, .ref aD, .ref aK, .ref aM, .ref aA, .ref aT, .ref aS, .int (nI ns), .int (nI nb), .int (nI na), .int (nI tm), .int (nI sn)])), (aK, arC cy 5 k), (aA, arC cy 6 fA), (aT, arC cy 6 fT), (aS, .inr (6, [.int (nI s.1), .int (nI s.2.1), .int (nI s.2.2)]))] [(0, .ref p), (1, .ref o), (2, .int (nI wh)), (3, .int (nI fe)), (4, .int (nI i))] 24 []
        have hw9 := gWorst_le (fA := fA) (fT := fT) (a := i) (sn := sn) (ka := k i) (s := s)
        refine j_aload_n (pc := 24) hM dX2_whomToSend_24 rfl 0 rfl ?_
        refine j_get (pc := 25) hM fd_X2_29 0 rfl rfl dX2_whomToSend_25 ?_
        refine j_if_le (pc := 28) hM 47 dX2_whomToSend_28 (by decide) (i0_le (by omega)) (fun c28 => ?_) (fun c28 => ?_)
        · skip
          refine j_iinc (pc := 47) hM (n' := 4) [(4, .int (nI (i + 1))), (0, .ref p), (1, .ref o), (2, .int (nI wh)), (3, .int (nI fe))] dX2_whomToSend_47 rfl (nI_add _ 1) (by decide) rfl ?_
          refine j_goto (pc := 50) hM 8 dX2_whomToSend_50 (by decide) ?_
          refine j_lv (pc := 8) hM [1, 2, 3, 4, 0] rfl ?_
          exact ih8 (i + 1) wh fe (gLeft fA fT i sn (k i) s) (gGain fA fT i sn (k i) s) (gWorst fA fT i sn (k i) s) (gC fA fT i sn (k i) s 10) u21 (by omega) (by simp only [sndR, ← hq]; first | (rw [if_pos (by omega)]; done) | (rw [if_neg (by omega)]; done)) (by omega)
        · skip
          refine j_aload_n (pc := 31) hM dX2_whomToSend_31 rfl 0 rfl ?_
          refine j_get (pc := 32) hM fd_X2_29 0 rfl rfl dX2_whomToSend_32 ?_
          refine j_iload_n (pc := 35) hM dX2_whomToSend_35 rfl 3 rfl ?_
          refine j_icmp_ge (pc := 36) hM 47 dX2_whomToSend_36 (by decide) (cLE (by omega) (by omega)) (fun c36 => ?_) (fun c36 => ?_)
          · skip
            refine j_iinc (pc := 47) hM (n' := 4) [(4, .int (nI (i + 1))), (0, .ref p), (1, .ref o), (2, .int (nI wh)), (3, .int (nI fe))] dX2_whomToSend_47 rfl (nI_add _ 1) (by decide) rfl ?_
            refine j_goto (pc := 50) hM 8 dX2_whomToSend_50 (by decide) ?_
            refine j_lv (pc := 8) hM [1, 2, 3, 4, 0] rfl ?_
            exact ih8 (i + 1) wh fe (gLeft fA fT i sn (k i) s) (gGain fA fT i sn (k i) s) (gWorst fA fT i sn (k i) s) (gC fA fT i sn (k i) s 10) u21 (by omega) (by simp only [sndR, ← hq]; first | (rw [if_pos (by omega)]; done) | (rw [if_neg (by omega)]; done)) (by omega)
          · skip
            refine j_iload (pc := 39) hM dX2_whomToSend_39 4 rfl ?_
            refine j_istore_n (pc := 41) hM [(2, .int (nI i)), (0, .ref p), (1, .ref o), (3, .int (nI fe)), (4, .int (nI i))] dX2_whomToSend_41 rfl (by decide) rfl ?_
            refine j_aload_n (pc := 42) hM dX2_whomToSend_42 rfl 1 rfl ?_
            refine j_get (pc := 43) hM fd_X2_29 0 rfl rfl dX2_whomToSend_43 ?_
            refine j_istore_n (pc := 46) hM [(3, .int (nI (gWorst fA fT i sn (k i) s))), (2, .int (nI i)), (0, .ref p), (1, .ref o), (4, .int (nI i))] dX2_whomToSend_46 rfl (by decide) rfl ?_
            refine j_iinc (pc := 47) hM (n' := 4) [(4, .int (nI (i + 1))), (3, .int (nI (gWorst fA fT i sn (k i) s))), (2, .int (nI i)), (0, .ref p), (1, .ref o)] dX2_whomToSend_47 rfl (nI_add _ 1) (by decide) rfl ?_
            refine j_goto (pc := 50) hM 8 dX2_whomToSend_50 (by decide) ?_
            refine j_lv (pc := 8) hM [3, 4, 2, 1, 0] rfl ?_
            exact ih8 (i + 1) i (gWorst fA fT i sn (k i) s) (gLeft fA fT i sn (k i) s) (gGain fA fT i sn (k i) s) (gWorst fA fT i sn (k i) s) (gC fA fT i sn (k i) s 10) u21 (by omega) (by simp only [sndR, ← hq]; first | (rw [if_pos (by omega)]; done) | (rw [if_neg (by omega)]; done)) (by omega)
  refine j_lv (pc := 8) hM [3, 4, 2, 1, 0] rfl ?_
  exact L8 _ 0 4294967295 11 lf ut lw ff e (by omega) rfl (Nat.lt_succ_self _)
