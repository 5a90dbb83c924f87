set_option maxHeartbeats 4000000 in
set_option maxRecDepth 100000 in
theorem c_X10_in (l : Launch) (D : va_G) (cy : ClassId) (v : Int64) (lo : Int64) (hi : Int64) : Ct (σ := Unit) l D cy yX10_in cX10_in 6 (some .boolean) { frames := 0, cells := 0, slots := 0, locals := 0 } [.long v, .long lo, .long hi] [] (fun _ => True) (fun _ => some (.int (nI (if lo.toInt ≤ v.toInt ∧ v.toInt ≤ hi.toInt then 1 else 0)))) (fun _ => []) := by
  refine Ct_ofI (by decide) (lb rfl) [(0, .long v), (2, .long lo), (4, .long hi)] rfl (fun G hM hret => ?_)
  refine j_lload_n (pc := 0) hM dX10_in_0 rfl 0 rfl ?_
  refine j_lload_n (pc := 1) hM dX10_in_1 rfl 1 rfl ?_
  refine j_lcmp (pc := 2) hM (v := lg_cmp v lo) dX10_in_2 rfl ?_
  refine j_if_lt (pc := 3) hM 17 dX10_in_3 (by decide) (lcm_lt _ _) (fun c3 => ?_) (fun c3 => ?_)
  · skip
    refine j_iconst (pc := 17) hM (v := nI 0) dX10_in_17 (by decide) ?_
    exact hret () _ _ _ _ trivial rfl (sI (show 0 = (if lo.toInt ≤ v.toInt ∧ v.toInt ≤ hi.toInt then 1 else 0) from by first | rfl | omega | (rw [if_pos (by omega)]) | (rw [if_neg (by omega)]))) rfl dX10_in_18
  · skip
    refine j_lload_n (pc := 6) hM dX10_in_6 rfl 0 rfl ?_
    refine j_lload (pc := 7) hM dX10_in_7 2 rfl ?_
    refine j_lcmp (pc := 9) hM (v := lg_cmp v hi) dX10_in_9 rfl ?_
    refine j_if_gt (pc := 10) hM 17 dX10_in_10 (by decide) (lcm_gt _ _) (fun c10 => ?_) (fun c10 => ?_)
    · skip
      refine j_iconst (pc := 17) hM (v := nI 0) dX10_in_17 (by decide) ?_
      exact hret () _ _ _ _ trivial rfl (sI (show 0 = (if lo.toInt ≤ v.toInt ∧ v.toInt ≤ hi.toInt then 1 else 0) from by first | rfl | omega | (rw [if_pos (by omega)]) | (rw [if_neg (by omega)]))) rfl dX10_in_18
    · skip
      refine j_iconst (pc := 13) hM (v := nI 1) dX10_in_13 (by decide) ?_
      refine j_goto (pc := 14) hM 18 dX10_in_14 (by decide) ?_
      exact hret () _ _ _ _ trivial rfl (sI (show 1 = (if lo.toInt ≤ v.toInt ∧ v.toInt ≤ hi.toInt then 1 else 0) from by first | rfl | omega | (rw [if_pos (by omega)]) | (rw [if_neg (by omega)]))) rfl dX10_in_18
set_option maxHeartbeats 4000000 in
set_option maxRecDepth 100000 in
theorem c_X10_copy (l : Launch) (D : va_G) (cy : ClassId) (q1 : Nat) (q2 : Nat) (n : Nat) (f : Nat → Nat) (g : Nat → Nat) (hn : n < 2147483648) : Ct (σ := Unit) l D cy yX10_copy cX10_copy 3 none { frames := 0, cells := 0, slots := 0, locals := 0 } [.ref q1, .ref q2] [(q1, arC cy n f), (q2, arC cy n g)] (fun _ => True) (fun _ => none) (fun _ => [(q1, arC cy n f), (q2, arC cy n f)]) := by
  refine Ct_ofV (by decide) (lb rfl) [(0, .ref q1), (1, .ref q2)] rfl (fun G hM hret => ?_)
  refine j_iconst (pc := 0) hM (v := nI 0) dX10_copy_0 (by decide) ?_
  refine j_istore_n (pc := 1) hM [(2, .int (nI 0)), (0, .ref q1), (1, .ref q2)] dX10_copy_1 rfl (by decide) rfl ?_
  have L2 : ∀ (n2 : Nat) (i : Nat) (F : Nat → Nat), (i ≤ n) → (∀ j, j < i → F j = f j) → (n - i) < n2 → G [(q1, arC cy n f), (q2, arC cy n F)] [(0, .ref q1), (1, .ref q2), (2, .int (nI i))] 2 [] := by
    intro n2
    induction n2 with
    | zero => intro i F hi hF hm2; exact absurd hm2 (Nat.not_lt_zero _)
    | succ n2 ih2 =>
      intro i F hi hF hm2
      refine j_iload_n (pc := 2) hM dX10_copy_2 rfl 2 rfl ?_
      refine j_aload_n (pc := 3) hM dX10_copy_3 rfl 0 rfl ?_
      refine j_alen (pc := 4) hM (v := nI n) 0 rfl rfl dX10_copy_4 ?_
      refine j_icmp_ge (pc := 5) hM 20 dX10_copy_5 (by decide) (cLE (by omega) (by omega)) (fun c5 => ?_) (fun c5 => ?_)
      · skip
        refine j_arN (pc := 20) hM [(q1, arC cy n f), (q2, arC cy n f)] 1 rfl (fun j hj => hF j (by omega)) rfl ?_
        exact hret () _ _ _ trivial rfl rfl dX10_copy_20
      · skip
        refine j_aload_n (pc := 8) hM dX10_copy_8 rfl 1 rfl ?_
        refine j_iload_n (pc := 9) hM dX10_copy_9 rfl 2 rfl ?_
        refine j_aload_n (pc := 10) hM dX10_copy_10 rfl 0 rfl ?_
        refine j_iload_n (pc := 11) hM dX10_copy_11 rfl 2 rfl ?_
        refine j_ldN (pc := 12) hM (v := f i) 0 rfl (by omega) (by omega) rfl dX10_copy_12 ?_
        refine j_stN (pc := 13) hM [(q1, arC cy n f), (q2, arC cy n (va_up F i (f i)))] 1 rfl (by omega) (by omega) rfl dX10_copy_13 ?_
        refine j_iinc (pc := 14) hM (n' := 2) [(2, .int (nI (i + 1))), (0, .ref q1), (1, .ref q2)] dX10_copy_14 rfl (nI_add _ 1) (by decide) rfl ?_
        refine j_goto (pc := 17) hM 2 dX10_copy_17 (by decide) ?_
        refine j_lv (pc := 2) hM [1, 2, 0] rfl ?_
        exact ih2 (i + 1) (va_up F i (f i)) (by omega) (fun j hj => by rcases Nat.lt_or_ge j i with z | z; rw [up_ne (by omega)]; exact hF j z; rw [show j = i by omega, up_eq]) (by omega)
  refine j_lv (pc := 2) hM [1, 2, 0] rfl ?_
  exact L2 _ 0 g (by omega) (fun j hj => absurd hj (Nat.not_lt_zero j)) (Nat.lt_succ_self _)
set_option maxHeartbeats 4000000 in
set_option maxRecDepth 100000 in
theorem c_X10_letter (l : Launch) (D : va_G) (cy : ClassId) (o : Nat) (aP : Nat) (aH : Nat) (aW : Nat) (aD : Nat) (aK : Nat) (aM : Nat) (aG : Nat) (bH : Nat) (bW : Nat) (bK : Nat) (bM : Nat) (bG : Nat) (pn : Nat) (en : Nat) (ne : Nat) (ns : Nat) (nb : Nat) (na : Nat) (tm : Nat) (sr : Nat) (fd : Nat) (sn : Nat) (sd : Nat) (kS : Nat) (ktm : Nat) (ksn : Nat) (s : S3) (st : S3) (ks : S3) (hs : Int64) (pg : Nat → Nat) (x : Int32) (hpn : pn ≤ 34) : Ct (σ := Unit) l D cy yX10_letter cX10_letter 2 (some .int) { frames := 1, cells := 0, slots := 0, locals := 25 } [.ref o, .int x] [(o, .inr (10, [.ref aP, .int (nI pn), .int (nI en), .int (nI ne), .int (nI ns), .int (nI nb), .int (nI na), .int (nI s.1), .int (nI s.2.1), .int (nI s.2.2), .int (nI tm), .int (nI sr), .ref aH, .ref aW, .ref aD, .ref aK, .ref aM, .int (nI st.1), .int (nI st.2.1), .int (nI st.2.2), .int (nI fd), .int (nI sn), .ref aG, .int (nI sd), .int (nI kS), .int (nI ks.1), .int (nI ks.2.1), .int (nI ks.2.2), .int (nI ktm), .int (nI ksn), .ref bH, .ref bW, .ref bK, .ref bM, .ref bG, .long hs])), (aP, arC cy 34 pg)] (fun _ => True) (fun _ => some (.int (letA x pn))) (fun _ => [(o, .inr (10, [.ref aP, .int (nI (if lOk x pn then pn + 1 else pn)), .int (nI en), .int (nI ne), .int (nI ns), .int (nI nb), .int (nI na), .int (nI s.1), .int (nI s.2.1), .int (nI s.2.2), .int (nI tm), .int (nI sr), .ref aH, .ref aW, .ref aD, .ref aK, .ref aM, .int (nI st.1), .int (nI st.2.1), .int (nI st.2.2), .int (nI fd), .int (nI sn), .ref aG, .int (nI sd), .int (nI kS), .int (nI ks.1), .int (nI ks.2.1), .int (nI ks.2.2), .int (nI ktm), .int (nI ksn), .ref bH, .ref bW, .ref bK, .ref bM, .ref bG, .long hs])), (aP, arC cy 34 (if lOk x pn then va_up pg pn (xn x) else pg))]) := by
  refine Ct_ofI (by decide) (lb rfl) [(0, .ref o), (1, .int x)] rfl (fun G hM hret => ?_)
  refine j_iload_n (pc := 0) hM dX10_letter_0 rfl 1 rfl ?_
  refine j_i2l (pc := 1) hM (v := x.toInt64) dX10_letter_1 rfl ?_
  refine j_lconst (pc := 2) hM (v := 1) dX10_letter_2 (by decide) ?_
  refine j_ldc2 (pc := 3) hM (v := 126) kl_X10_50 dX10_letter_3 ?_
  refine j_callS (pc := 6) hM cs_X10_52 (As := [.long (x.toInt64), .long (1 : Int64), .long (126 : Int64)]) (rest := []) (c_X10_in l D cy (x.toInt64) (1 : Int64) (126 : Int64)) ⟨lb rfl, lb rfl, lb rfl, lb rfl⟩ rfl [] [0, 1] [0, 1] [(o, .inr (10, [.ref aP, .int (nI pn), .int (nI en), .int (nI ne), .int (nI ns), .int (nI nb), .int (nI na), .int (nI s.1), .int (nI s.2.1), .int (nI s.2.2), .int (nI tm), .int (nI sr), .ref aH, .ref aW, .ref aD, .ref aK, .ref aM, .int (nI st.1), .int (nI st.2.1), .int (nI st.2.2), .int (nI fd), .int (nI sn), .ref aG, .int (nI sd), .int (nI kS), .int (nI ks.1), .int (nI ks.2.1), .int (nI ks.2.2), .int (nI ktm), .int (nI ksn), .ref bH, .ref bW, .ref bK, .ref bM, .ref bG, .long hs])), (aP, arC cy 34 pg)] (fun _ => [(o, .inr (10, [.ref aP, .int (nI pn), .int (nI en), .int (nI ne), .int (nI ns), .int (nI nb), .int (nI na), .int (nI s.1), .int (nI s.2.1), .int (nI s.2.2), .int (nI tm), .int (nI sr), .ref aH, .ref aW, .ref aD, .ref aK, .ref aM, .int (nI st.1), .int (nI st.2.1), .int (nI st.2.2), .int (nI fd), .int (nI sn), .ref aG, .int (nI sd), .int (nI kS), .int (nI ks.1), .int (nI ks.2.1), .int (nI ks.2.2), .int (nI ktm), .int (nI ksn), .ref bH, .ref bW, .ref bK, .ref bM, .ref bG, .long hs])), (aP, arC cy 34 pg)]) rfl (by decide) rfl (by decide) (by decide) (by decide) (fun _ => rfl) (lb rfl) dX10_letter_6 hM.two (fun _ _ => ?_)
  show G [(o, .inr (10, [.ref aP, .int (nI pn), .int (nI en), .int (nI ne), .int (nI ns), .int (nI nb), .int (nI na), .int (nI s.1), .int (nI s.2.1), .int (nI s.2.2), .int (nI tm), .int (nI sr), .ref aH, .ref aW, .ref aD, .ref aK, .ref aM, .int (nI st.1), .int (nI st.2.1), .int (nI st.2.2), .int (nI fd), .int (nI sn), .ref aG, .int (nI sd), .int (nI kS), .int (nI ks.1), .int (nI ks.2.1), .int (nI ks.2.2), .int (nI ktm), .int (nI ksn), .ref bH, .ref bW, .ref bK, .ref bM, .ref bG, .long hs])), (aP, arC cy 34 pg)] [(0, .ref o), (1, .int x)] 9 [.int (nI (if (1 : Int64).toInt ≤ (x.toInt64).toInt ∧ (x.toInt64).toInt ≤ (126 : Int64).toInt then 1 else 0))]
  rw [inE (x := x) (lo := (1 : Int64)) (hi := (126 : Int64)) (a := 1) (b := 126) (by decide) (by decide)]
  show G [(o, .inr (10, [.ref aP, .int (nI pn), .int (nI en), .int (nI ne), .int (nI ns), .int (nI nb), .int (nI na), .int (nI s.1), .int (nI s.2.1), .int (nI s.2.2), .int (nI tm), .int (nI sr), .ref aH, .ref aW, .ref aD, .ref aK, .ref aM, .int (nI st.1), .int (nI st.2.1), .int (nI st.2.2), .int (nI fd), .int (nI sn), .ref aG, .int (nI sd), .int (nI kS), .int (nI ks.1), .int (nI ks.2.1), .int (nI ks.2.2), .int (nI ktm), .int (nI ksn), .ref bH, .ref bW, .ref bK, .ref bM, .ref bG, .long hs])), (aP, arC cy 34 pg)] [(0, .ref o), (1, .int x)] 9 [.int (nI (if 1 ≤ x.toInt ∧ x.toInt ≤ 126 then 1 else 0))]
  refine j_if_neB (pc := 9) (P := (1 ≤ x.toInt ∧ x.toInt ≤ 126)) hM 15 dX10_letter_9 (by decide) b0_eq (fun c9 => ?_) (fun c9 => ?_)
  · skip
    have nx : x = nI (xn x) := xnI (by omega)
    have jx := xn_eq (x := x) (by omega)
    rw [nx]
    refine j_aload_n (pc := 15) hM dX10_letter_15 rfl 0 rfl ?_
    refine j_get (pc := 16) hM fd_X10_56 0 rfl rfl dX10_letter_16 ?_
    refine j_bipush (pc := 19) hM (v := nI 34) dX10_letter_19 (by decide) ?_
    refine j_icmp_ne (pc := 21) hM 27 dX10_letter_21 (by decide) (cEQ (by omega) (by omega)) (fun c21 => ?_) (fun c21 => ?_)
    · skip
      refine j_aload_n (pc := 27) hM dX10_letter_27 rfl 0 rfl ?_
      refine j_get (pc := 28) hM fd_X10_7 0 rfl rfl dX10_letter_28 ?_
      refine j_aload_n (pc := 31) hM dX10_letter_31 rfl 0 rfl ?_
      refine j_get (pc := 32) hM fd_X10_56 0 rfl rfl dX10_letter_32 ?_
      refine j_iload_n (pc := 35) hM dX10_letter_35 rfl 1 rfl ?_
      refine j_stN (pc := 36) hM [(o, .inr (10, [.ref aP, .int (nI pn), .int (nI en), .int (nI ne), .int (nI ns), .int (nI nb), .int (nI na), .int (nI s.1), .int (nI s.2.1), .int (nI s.2.2), .int (nI tm), .int (nI sr), .ref aH, .ref aW, .ref aD, .ref aK, .ref aM, .int (nI st.1), .int (nI st.2.1), .int (nI st.2.2), .int (nI fd), .int (nI sn), .ref aG, .int (nI sd), .int (nI kS), .int (nI ks.1), .int (nI ks.2.1), .int (nI ks.2.2), .int (nI ktm), .int (nI ksn), .ref bH, .ref bW, .ref bK, .ref bM, .ref bG, .long hs])), (aP, arC cy 34 (va_up pg pn (xn x)))] 1 rfl (by omega) (by decide) rfl dX10_letter_36 ?_
      refine j_aload_n (pc := 37) hM dX10_letter_37 rfl 0 rfl ?_
      refine j_dup (pc := 38) hM dX10_letter_38 rfl ?_
      refine j_get (pc := 39) hM fd_X10_56 0 rfl rfl dX10_letter_39 ?_
      refine j_iconst (pc := 42) hM (v := nI 1) dX10_letter_42 (by decide) ?_
      refine j_iadd (pc := 43) hM (v := nI (pn + 1)) dX10_letter_43 (nI_add _ _) ?_
      refine j_put (pc := 44) hM fp_X10_56 [(o, .inr (10, [.ref aP, .int (nI (pn + 1)), .int (nI en), .int (nI ne), .int (nI ns), .int (nI nb), .int (nI na), .int (nI s.1), .int (nI s.2.1), .int (nI s.2.2), .int (nI tm), .int (nI sr), .ref aH, .ref aW, .ref aD, .ref aK, .ref aM, .int (nI st.1), .int (nI st.2.1), .int (nI st.2.2), .int (nI fd), .int (nI sn), .ref aG, .int (nI sd), .int (nI kS), .int (nI ks.1), .int (nI ks.2.1), .int (nI ks.2.2), .int (nI ktm), .int (nI ksn), .ref bH, .ref bW, .ref bK, .ref bM, .ref bG, .long hs])), (aP, arC cy 34 (va_up pg pn (xn x)))] 0 rfl (lb rfl) rfl rfl rfl dX10_letter_44 ?_
      refine j_aload_n (pc := 47) hM dX10_letter_47 rfl 0 rfl ?_
      refine j_get (pc := 48) hM fd_X10_56 0 rfl rfl dX10_letter_48 ?_
      exact hret () _ _ _ _ trivial (eq2 (fun (z0 : Nat) (z1 : Nat → Nat) => ([(o, .inr (10, [.ref aP, .int (nI z0), .int (nI en), .int (nI ne), .int (nI ns), .int (nI nb), .int (nI na), .int (nI s.1), .int (nI s.2.1), .int (nI s.2.2), .int (nI tm), .int (nI sr), .ref aH, .ref aW, .ref aD, .ref aK, .ref aM, .int (nI st.1), .int (nI st.2.1), .int (nI st.2.2), .int (nI fd), .int (nI sn), .ref aG, .int (nI sd), .int (nI kS), .int (nI ks.1), .int (nI ks.2.1), .int (nI ks.2.2), .int (nI ktm), .int (nI ksn), .ref bH, .ref bW, .ref bK, .ref bM, .ref bG, .long hs])), (aP, arC cy 34 z1)] : va_W)) (show (pn + 1) = (if lOk x pn then pn + 1 else pn) from by rw [if_pos (by omega)]) (show (va_up pg pn (xn x)) = (if lOk x pn then va_up pg pn (xn x) else pg) from by rw [if_pos (by omega)])) (show some (Value.int (nI (pn + 1))) = some (Value.int (letA x pn)) from by simp only [letA]; rw [if_pos c9, if_pos (show pn < 34 by omega)]) rfl dX10_letter_51
    · skip
      refine j_bipush (pc := 24) hM (v := (-104)) dX10_letter_24 (by decide) ?_
      exact hret () _ _ _ _ trivial (eq2 (fun (z0 : Nat) (z1 : Nat → Nat) => ([(o, .inr (10, [.ref aP, .int (nI z0), .int (nI en), .int (nI ne), .int (nI ns), .int (nI nb), .int (nI na), .int (nI s.1), .int (nI s.2.1), .int (nI s.2.2), .int (nI tm), .int (nI sr), .ref aH, .ref aW, .ref aD, .ref aK, .ref aM, .int (nI st.1), .int (nI st.2.1), .int (nI st.2.2), .int (nI fd), .int (nI sn), .ref aG, .int (nI sd), .int (nI kS), .int (nI ks.1), .int (nI ks.2.1), .int (nI ks.2.2), .int (nI ktm), .int (nI ksn), .ref bH, .ref bW, .ref bK, .ref bM, .ref bG, .long hs])), (aP, arC cy 34 z1)] : va_W)) (show pn = (if lOk x pn then pn + 1 else pn) from by rw [if_neg (by omega)]) (show pg = (if lOk x pn then va_up pg pn (xn x) else pg) from by rw [if_neg (by omega)])) (show some (Value.int (-104)) = some (Value.int (letA x pn)) from by simp only [letA]; rw [if_pos c9, if_neg (show ¬ pn < 34 by omega)]) rfl dX10_letter_26
  · skip
    refine j_bipush (pc := 12) hM (v := (-102)) dX10_letter_12 (by decide) ?_
    exact hret () _ _ _ _ trivial (eq2 (fun (z0 : Nat) (z1 : Nat → Nat) => ([(o, .inr (10, [.ref aP, .int (nI z0), .int (nI en), .int (nI ne), .int (nI ns), .int (nI nb), .int (nI na), .int (nI s.1), .int (nI s.2.1), .int (nI s.2.2), .int (nI tm), .int (nI sr), .ref aH, .ref aW, .ref aD, .ref aK, .ref aM, .int (nI st.1), .int (nI st.2.1), .int (nI st.2.2), .int (nI fd), .int (nI sn), .ref aG, .int (nI sd), .int (nI kS), .int (nI ks.1), .int (nI ks.2.1), .int (nI ks.2.2), .int (nI ktm), .int (nI ksn), .ref bH, .ref bW, .ref bK, .ref bM, .ref bG, .long hs])), (aP, arC cy 34 z1)] : va_W)) (show pn = (if lOk x pn then pn + 1 else pn) from by rw [if_neg (by omega)]) (show pg = (if lOk x pn then va_up pg pn (xn x) else pg) from by rw [if_neg (by omega)])) (show some (Value.int (-102)) = some (Value.int (letA x pn)) from by simp only [letA]; rw [if_neg (by omega)]) rfl dX10_letter_14
set_option maxHeartbeats 4000000 in
set_option maxRecDepth 100000 in
theorem c_X10_blank (l : Launch) (D : va_G) (cy : ClassId) (o : Nat) (aP : Nat) (aH : Nat) (aW : Nat) (aD : Nat) (aK : Nat) (aM : Nat) (aG : Nat) (bH : Nat) (bW : Nat) (bK : Nat) (bM : Nat) (bG : Nat) (pn : Nat) (en : Nat) (ne : Nat) (ns : Nat) (nb : Nat) (na : Nat) (tm : Nat) (sr : Nat) (fd : Nat) (sn : Nat) (sd : Nat) (kS : Nat) (ktm : Nat) (ksn : Nat) (s : S3) (st : S3) (ks : S3) (hs : Int64) : Ct (σ := Unit) l D cy yX10_blank cX10_blank 2 (some .int) { frames := 0, cells := 0, slots := 0, locals := 0 } [.ref o] [(o, .inr (10, [.ref aP, .int (nI pn), .int (nI en), .int (nI ne), .int (nI ns), .int (nI nb), .int (nI na), .int (nI s.1), .int (nI s.2.1), .int (nI s.2.2), .int (nI tm), .int (nI sr), .ref aH, .ref aW, .ref aD, .ref aK, .ref aM, .int (nI st.1), .int (nI st.2.1), .int (nI st.2.2), .int (nI fd), .int (nI sn), .ref aG, .int (nI sd), .int (nI kS), .int (nI ks.1), .int (nI ks.2.1), .int (nI ks.2.2), .int (nI ktm), .int (nI ksn), .ref bH, .ref bW, .ref bK, .ref bM, .ref bG, .long hs]))] (fun _ => True) (fun _ => some (.int (nI pn))) (fun _ => [(o, .inr (10, [.ref aP, .int (nI 0), .int (nI en), .int (nI ne), .int (nI ns), .int (nI nb), .int (nI na), .int (nI s.1), .int (nI s.2.1), .int (nI s.2.2), .int (nI tm), .int (nI sr), .ref aH, .ref aW, .ref aD, .ref aK, .ref aM, .int (nI st.1), .int (nI st.2.1), .int (nI st.2.2), .int (nI fd), .int (nI sn), .ref aG, .int (nI sd), .int (nI kS), .int (nI ks.1), .int (nI ks.2.1), .int (nI ks.2.2), .int (nI ktm), .int (nI ksn), .ref bH, .ref bW, .ref bK, .ref bM, .ref bG, .long hs]))]) := by
  refine Ct_ofI (by decide) (lb rfl) [(0, .ref o)] rfl (fun G hM hret => ?_)
  refine j_aload_n (pc := 0) hM dX10_blank_0 rfl 0 rfl ?_
  refine j_get (pc := 1) hM fd_X10_56 0 rfl rfl dX10_blank_1 ?_
  refine j_istore_n (pc := 4) hM [(1, .int (nI pn)), (0, .ref o)] dX10_blank_4 rfl (by decide) rfl ?_
  refine j_aload_n (pc := 5) hM dX10_blank_5 rfl 1 rfl ?_
  refine j_iconst (pc := 6) hM (v := nI 0) dX10_blank_6 (by decide) ?_
  refine j_put (pc := 7) hM fp_X10_56 [(o, .inr (10, [.ref aP, .int (nI 0), .int (nI en), .int (nI ne), .int (nI ns), .int (nI nb), .int (nI na), .int (nI s.1), .int (nI s.2.1), .int (nI s.2.2), .int (nI tm), .int (nI sr), .ref aH, .ref aW, .ref aD, .ref aK, .ref aM, .int (nI st.1), .int (nI st.2.1), .int (nI st.2.2), .int (nI fd), .int (nI sn), .ref aG, .int (nI sd), .int (nI kS), .int (nI ks.1), .int (nI ks.2.1), .int (nI ks.2.2), .int (nI ktm), .int (nI ksn), .ref bH, .ref bW, .ref bK, .ref bM, .ref bG, .long hs]))] 0 rfl (lb rfl) rfl rfl rfl dX10_blank_7 ?_
  refine j_iload_n (pc := 10) hM dX10_blank_10 rfl 0 rfl ?_
  exact hret () _ _ _ _ trivial rfl rfl rfl dX10_blank_11
set_option maxHeartbeats 4000000 in
set_option maxRecDepth 100000 in
theorem c_X10_kindBy (l : Launch) (D : va_G) (cy : ClassId) (c : Nat) (hc : c ≤ 126) : Ct (σ := Unit) l D cy yX10_kindBy cX10_kindBy 1 (some .int) { frames := 0, cells := 0, slots := 0, locals := 0 } [.int (nI c)] [] (fun _ => True) (fun _ => some (.int (nI (kd c)))) (fun _ => []) := by
  refine Ct_ofI (by decide) (lb rfl) [(0, .int (nI c))] rfl (fun G hM hret => ?_)
  refine j_iload_n (pc := 0) hM dX10_kindBy_0 rfl 0 rfl ?_
  rcases (show c = 97 ∨ c = 102 ∨ c = 108 ∨ c = 114 ∨ c = 115 ∨ (c ≠ 97 ∧ c ≠ 102 ∧ c ≠ 108 ∧ c ≠ 114 ∧ c ≠ 115) by omega) with s1 | s1 | s1 | s1 | s1 | s1
  · skip
    refine j_lswK (pc := 1) hM 97 52 dX10_kindBy_1 (by decide) (by rw [s1]; decide) rfl (by decide) ?_
    refine j_iconst (pc := 52) hM (v := nI 0) dX10_kindBy_52 (by decide) ?_
    exact hret () _ _ _ _ trivial rfl (sI (show 0 = (kd c) from by simp [kd, s1])) rfl dX10_kindBy_53
  · skip
    refine j_lswK (pc := 1) hM 102 60 dX10_kindBy_1 (by decide) (by rw [s1]; decide) rfl (by decide) ?_
    refine j_iconst (pc := 60) hM (v := nI 4) dX10_kindBy_60 (by decide) ?_
    exact hret () _ _ _ _ trivial rfl (sI (show 4 = (kd c) from by simp [kd, s1])) rfl dX10_kindBy_61
  · skip
    refine j_lswK (pc := 1) hM 108 58 dX10_kindBy_1 (by decide) (by rw [s1]; decide) rfl (by decide) ?_
    refine j_iconst (pc := 58) hM (v := nI 3) dX10_kindBy_58 (by decide) ?_
    exact hret () _ _ _ _ trivial rfl (sI (show 3 = (kd c) from by simp [kd, s1])) rfl dX10_kindBy_59
  · skip
    refine j_lswK (pc := 1) hM 114 54 dX10_kindBy_1 (by decide) (by rw [s1]; decide) rfl (by decide) ?_
    refine j_iconst (pc := 54) hM (v := nI 1) dX10_kindBy_54 (by decide) ?_
    exact hret () _ _ _ _ trivial rfl (sI (show 1 = (kd c) from by simp [kd, s1])) rfl dX10_kindBy_55
  · skip
    refine j_lswK (pc := 1) hM 115 56 dX10_kindBy_1 (by decide) (by rw [s1]; decide) rfl (by decide) ?_
    refine j_iconst (pc := 56) hM (v := nI 2) dX10_kindBy_56 (by decide) ?_
    exact hret () _ _ _ _ trivial rfl (sI (show 2 = (kd c) from by simp [kd, s1])) rfl dX10_kindBy_57
  · skip
    refine j_lswD (pc := 1) hM 62 dX10_kindBy_1 (by decide) (by intro q hq; simp only [List.mem_cons, List.not_mem_nil, or_false] at hq; rcases hq with rfl | rfl | rfl | rfl | rfl <;> (rw [nti (by omega)]; simp only; omega)) (by decide) ?_
    refine j_iconst (pc := 62) hM (v := nI 4294967295) dX10_kindBy_62 (by decide) ?_
    exact hret () _ _ _ _ trivial rfl (sI (show 4294967295 = (kd c) from by simp [kd, s1])) rfl dX10_kindBy_63
set_option maxHeartbeats 4000000 in
set_option maxRecDepth 100000 in
theorem c_X10_lacks (l : Launch) (D : va_G) (cy : ClassId) (o : Nat) (aP : Nat) (aH : Nat) (aW : Nat) (aD : Nat) (aK : Nat) (aM : Nat) (aG : Nat) (bH : Nat) (bW : Nat) (bK : Nat) (bM : Nat) (bG : Nat) (pn : Nat) (en : Nat) (ne : Nat) (ns : Nat) (nb : Nat) (na : Nat) (tm : Nat) (sr : Nat) (fd : Nat) (sn : Nat) (sd : Nat) (kS : Nat) (ktm : Nat) (ksn : Nat) (s : S3) (st : S3) (ks : S3) (hs : Int64) (hna : na ≤ 5) : Ct (σ := Unit) l D cy yX10_lacks cX10_lacks 1 (some .boolean) { frames := 0, cells := 0, slots := 0, locals := 0 } [.ref o] [(o, .inr (10, [.ref aP, .int (nI pn), .int (nI en), .int (nI ne), .int (nI ns), .int (nI nb), .int (nI na), .int (nI s.1), .int (nI s.2.1), .int (nI s.2.2), .int (nI tm), .int (nI sr), .ref aH, .ref aW, .ref aD, .ref aK, .ref aM, .int (nI st.1), .int (nI st.2.1), .int (nI st.2.2), .int (nI fd), .int (nI sn), .ref aG, .int (nI sd), .int (nI kS), .int (nI ks.1), .int (nI ks.2.1), .int (nI ks.2.2), .int (nI ktm), .int (nI ksn), .ref bH, .ref bW, .ref bK, .ref bM, .ref bG, .long hs]))] (fun _ => True) (fun _ => some (.int (nI (if na = 0 then 1 else 0)))) (fun _ => [(o, .inr (10, [.ref aP, .int (nI pn), .int (nI en), .int (nI ne), .int (nI ns), .int (nI nb), .int (nI na), .int (nI s.1), .int (nI s.2.1), .int (nI s.2.2), .int (nI tm), .int (nI sr), .ref aH, .ref aW, .ref aD, .ref aK, .ref aM, .int (nI st.1), .int (nI st.2.1), .int (nI st.2.2), .int (nI fd), .int (nI sn), .ref aG, .int (nI sd), .int (nI kS), .int (nI ks.1), .int (nI ks.2.1), .int (nI ks.2.2), .int (nI ktm), .int (nI ksn), .ref bH, .ref bW, .ref bK, .ref bM, .ref bG, .long hs]))]) := by
  refine Ct_ofI (by decide) (lb rfl) [(0, .ref o)] rfl (fun G hM hret => ?_)
  refine j_aload_n (pc := 0) hM dX10_lacks_0 rfl 0 rfl ?_
  refine j_get (pc := 1) hM fd_X10_96 0 rfl rfl dX10_lacks_1 ?_
  refine j_if_ne (pc := 4) hM 11 dX10_lacks_4 (by decide) (i0_eq (by omega)) (fun c4 => ?_) (fun c4 => ?_)
  · skip
    refine j_iconst (pc := 11) hM (v := nI 0) dX10_lacks_11 (by decide) ?_
    exact hret () _ _ _ _ trivial rfl (sI (show 0 = (if na = 0 then 1 else 0) from by first | rfl | omega | (rw [if_pos (by omega)]) | (rw [if_neg (by omega)]))) rfl dX10_lacks_12
  · skip
    refine j_iconst (pc := 7) hM (v := nI 1) dX10_lacks_7 (by decide) ?_
    refine j_goto (pc := 8) hM 12 dX10_lacks_8 (by decide) ?_
    exact hret () _ _ _ _ trivial rfl (sI (show 1 = (if na = 0 then 1 else 0) from by first | rfl | omega | (rw [if_pos (by omega)]) | (rw [if_neg (by omega)]))) rfl dX10_lacks_12
set_option maxHeartbeats 4000000 in
set_option maxRecDepth 100000 in
theorem c_X10_isSand (l : Launch) (D : va_G) (cy : ClassId) (o : Nat) (aP : Nat) (aH : Nat) (aW : Nat) (aD : Nat) (aK : Nat) (aM : Nat) (aG : Nat) (bH : Nat) (bW : Nat) (bK : Nat) (bM : Nat) (bG : Nat) (pn : Nat) (en : Nat) (ne : Nat) (ns : Nat) (nb : Nat) (na : Nat) (tm : Nat) (sr : Nat) (fd : Nat) (sn : Nat) (sd : Nat) (kS : Nat) (ktm : Nat) (ksn : Nat) (s : S3) (st : S3) (ks : S3) (hs : Int64) (x : Int32) (hn : ns ≤ 8) : Ct (σ := Unit) l D cy yX10_isSand cX10_isSand 2 (some .boolean) { frames := 1, cells := 0, slots := 0, locals := 25 } [.ref o, .int x] [(o, .inr (10, [.ref aP, .int (nI pn), .int (nI en), .int (nI ne), .int (nI ns), .int (nI nb), .int (nI na), .int (nI s.1), .int (nI s.2.1), .int (nI s.2.2), .int (nI tm), .int (nI sr), .ref aH, .ref aW, .ref aD, .ref aK, .ref aM, .int (nI st.1), .int (nI st.2.1), .int (nI st.2.2), .int (nI fd), .int (nI sn), .ref aG, .int (nI sd), .int (nI kS), .int (nI ks.1), .int (nI ks.2.1), .int (nI ks.2.2), .int (nI ktm), .int (nI ksn), .ref bH, .ref bW, .ref bK, .ref bM, .ref bG, .long hs]))] (fun _ => True) (fun _ => some (.int (nI (if inR x ns then 1 else 0)))) (fun _ => [(o, .inr (10, [.ref aP, .int (nI pn), .int (nI en), .int (nI ne), .int (nI ns), .int (nI nb), .int (nI na), .int (nI s.1), .int (nI s.2.1), .int (nI s.2.2), .int (nI tm), .int (nI sr), .ref aH, .ref aW, .ref aD, .ref aK, .ref aM, .int (nI st.1), .int (nI st.2.1), .int (nI st.2.2), .int (nI fd), .int (nI sn), .ref aG, .int (nI sd), .int (nI kS), .int (nI ks.1), .int (nI ks.2.1), .int (nI ks.2.2), .int (nI ktm), .int (nI ksn), .ref bH, .ref bW, .ref bK, .ref bM, .ref bG, .long hs]))]) := by
  refine Ct_ofI (by decide) (lb rfl) [(0, .ref o), (1, .int x)] rfl (fun G hM hret => ?_)
  refine j_iload_n (pc := 0) hM dX10_isSand_0 rfl 1 rfl ?_
  refine j_i2l (pc := 1) hM (v := x.toInt64) dX10_isSand_1 rfl ?_
  refine j_lconst (pc := 2) hM (v := 0) dX10_isSand_2 (by decide) ?_
  refine j_aload_n (pc := 3) hM dX10_isSand_3 rfl 0 rfl ?_
  refine j_get (pc := 4) hM fd_X10_90 0 rfl rfl dX10_isSand_4 ?_
  refine j_iconst (pc := 7) hM (v := nI 1) dX10_isSand_7 (by decide) ?_
  refine j_isub (pc := 8) hM (v := (nI ns) - (nI 1)) dX10_isSand_8 rfl ?_
  refine j_i2l (pc := 9) hM (v := ((nI ns) - (nI 1)).toInt64) dX10_isSand_9 rfl ?_
  refine j_callS (pc := 10) hM cs_X10_52 (As := [.long (x.toInt64), .long (0 : Int64), .long (((nI ns) - (nI 1)).toInt64)]) (rest := []) (c_X10_in l D cy (x.toInt64) (0 : Int64) (((nI ns) - (nI 1)).toInt64)) ⟨lb rfl, lb rfl, lb rfl, lb rfl⟩ rfl [] [0] [0] [(o, .inr (10, [.ref aP, .int (nI pn), .int (nI en), .int (nI ne), .int (nI ns), .int (nI nb), .int (nI na), .int (nI s.1), .int (nI s.2.1), .int (nI s.2.2), .int (nI tm), .int (nI sr), .ref aH, .ref aW, .ref aD, .ref aK, .ref aM, .int (nI st.1), .int (nI st.2.1), .int (nI st.2.2), .int (nI fd), .int (nI sn), .ref aG, .int (nI sd), .int (nI kS), .int (nI ks.1), .int (nI ks.2.1), .int (nI ks.2.2), .int (nI ktm), .int (nI ksn), .ref bH, .ref bW, .ref bK, .ref bM, .ref bG, .long hs]))] (fun _ => [(o, .inr (10, [.ref aP, .int (nI pn), .int (nI en), .int (nI ne), .int (nI ns), .int (nI nb), .int (nI na), .int (nI s.1), .int (nI s.2.1), .int (nI s.2.2), .int (nI tm), .int (nI sr), .ref aH, .ref aW, .ref aD, .ref aK, .ref aM, .int (nI st.1), .int (nI st.2.1), .int (nI st.2.2), .int (nI fd), .int (nI sn), .ref aG, .int (nI sd), .int (nI kS), .int (nI ks.1), .int (nI ks.2.1), .int (nI ks.2.2), .int (nI ktm), .int (nI ksn), .ref bH, .ref bW, .ref bK, .ref bM, .ref bG, .long hs]))]) rfl (by decide) rfl (by decide) (by decide) (by decide) (fun _ => rfl) (lb rfl) dX10_isSand_10 hM.two (fun _ _ => ?_)
  show G [(o, .inr (10, [.ref aP, .int (nI pn), .int (nI en), .int (nI ne), .int (nI ns), .int (nI nb), .int (nI na), .int (nI s.1), .int (nI s.2.1), .int (nI s.2.2), .int (nI tm), .int (nI sr), .ref aH, .ref aW, .ref aD, .ref aK, .ref aM, .int (nI st.1), .int (nI st.2.1), .int (nI st.2.2), .int (nI fd), .int (nI sn), .ref aG, .int (nI sd), .int (nI kS), .int (nI ks.1), .int (nI ks.2.1), .int (nI ks.2.2), .int (nI ktm), .int (nI ksn), .ref bH, .ref bW, .ref bK, .ref bM, .ref bG, .long hs]))] [(0, .ref o), (1, .int x)] 13 [.int (nI (if (0 : Int64).toInt ≤ (x.toInt64).toInt ∧ (x.toInt64).toInt ≤ (((nI ns) - (nI 1)).toInt64).toInt then 1 else 0))]
  rw [inS (x := x) (n := ns) (by omega)]
  show G [(o, .inr (10, [.ref aP, .int (nI pn), .int (nI en), .int (nI ne), .int (nI ns), .int (nI nb), .int (nI na), .int (nI s.1), .int (nI s.2.1), .int (nI s.2.2), .int (nI tm), .int (nI sr), .ref aH, .ref aW, .ref aD, .ref aK, .ref aM, .int (nI st.1), .int (nI st.2.1), .int (nI st.2.2), .int (nI fd), .int (nI sn), .ref aG, .int (nI sd), .int (nI kS), .int (nI ks.1), .int (nI ks.2.1), .int (nI ks.2.2), .int (nI ktm), .int (nI ksn), .ref bH, .ref bW, .ref bK, .ref bM, .ref bG, .long hs]))] [(0, .ref o), (1, .int x)] 13 [.int (nI (if inR x ns then 1 else 0))]
  exact hret () _ _ _ _ trivial rfl rfl (nbool ifle1) dX10_isSand_13
set_option maxHeartbeats 4000000 in
set_option maxRecDepth 100000 in
theorem c_X10_isBoat (l : Launch) (D : va_G) (cy : ClassId) (o : Nat) (aP : Nat) (aH : Nat) (aW : Nat) (aD : Nat) (aK : Nat) (aM : Nat) (aG : Nat) (bH : Nat) (bW : Nat) (bK : Nat) (bM : Nat) (bG : Nat) (pn : Nat) (en : Nat) (ne : Nat) (ns : Nat) (nb : Nat) (na : Nat) (tm : Nat) (sr : Nat) (fd : Nat) (sn : Nat) (sd : Nat) (kS : Nat) (ktm : Nat) (ksn : Nat) (s : S3) (st : S3) (ks : S3) (hs : Int64) (x : Int32) (hn : nb ≤ 8) : Ct (σ := Unit) l D cy yX10_isBoat cX10_isBoat 2 (some .boolean) { frames := 1, cells := 0, slots := 0, locals := 25 } [.ref o, .int x] [(o, .inr (10, [.ref aP, .int (nI pn), .int (nI en), .int (nI ne), .int (nI ns), .int (nI nb), .int (nI na), .int (nI s.1), .int (nI s.2.1), .int (nI s.2.2), .int (nI tm), .int (nI sr), .ref aH, .ref aW, .ref aD, .ref aK, .ref aM, .int (nI st.1), .int (nI st.2.1), .int (nI st.2.2), .int (nI fd), .int (nI sn), .ref aG, .int (nI sd), .int (nI kS), .int (nI ks.1), .int (nI ks.2.1), .int (nI ks.2.2), .int (nI ktm), .int (nI ksn), .ref bH, .ref bW, .ref bK, .ref bM, .ref bG, .long hs]))] (fun _ => True) (fun _ => some (.int (nI (if inR x nb then 1 else 0)))) (fun _ => [(o, .inr (10, [.ref aP, .int (nI pn), .int (nI en), .int (nI ne), .int (nI ns), .int (nI nb), .int (nI na), .int (nI s.1), .int (nI s.2.1), .int (nI s.2.2), .int (nI tm), .int (nI sr), .ref aH, .ref aW, .ref aD, .ref aK, .ref aM, .int (nI st.1), .int (nI st.2.1), .int (nI st.2.2), .int (nI fd), .int (nI sn), .ref aG, .int (nI sd), .int (nI kS), .int (nI ks.1), .int (nI ks.2.1), .int (nI ks.2.2), .int (nI ktm), .int (nI ksn), .ref bH, .ref bW, .ref bK, .ref bM, .ref bG, .long hs]))]) := by
  refine Ct_ofI (by decide) (lb rfl) [(0, .ref o), (1, .int x)] rfl (fun G hM hret => ?_)
  refine j_iload_n (pc := 0) hM dX10_isBoat_0 rfl 1 rfl ?_
  refine j_i2l (pc := 1) hM (v := x.toInt64) dX10_isBoat_1 rfl ?_
  refine j_lconst (pc := 2) hM (v := 0) dX10_isBoat_2 (by decide) ?_
  refine j_aload_n (pc := 3) hM dX10_isBoat_3 rfl 0 rfl ?_
  refine j_get (pc := 4) hM fd_X10_93 0 rfl rfl dX10_isBoat_4 ?_
  refine j_iconst (pc := 7) hM (v := nI 1) dX10_isBoat_7 (by decide) ?_
  refine j_isub (pc := 8) hM (v := (nI nb) - (nI 1)) dX10_isBoat_8 rfl ?_
  refine j_i2l (pc := 9) hM (v := ((nI nb) - (nI 1)).toInt64) dX10_isBoat_9 rfl ?_
  refine j_callS (pc := 10) hM cs_X10_52 (As := [.long (x.toInt64), .long (0 : Int64), .long (((nI nb) - (nI 1)).toInt64)]) (rest := []) (c_X10_in l D cy (x.toInt64) (0 : Int64) (((nI nb) - (nI 1)).toInt64)) ⟨lb rfl, lb rfl, lb rfl, lb rfl⟩ rfl [] [0] [0] [(o, .inr (10, [.ref aP, .int (nI pn), .int (nI en), .int (nI ne), .int (nI ns), .int (nI nb), .int (nI na), .int (nI s.1), .int (nI s.2.1), .int (nI s.2.2), .int (nI tm), .int (nI sr), .ref aH, .ref aW, .ref aD, .ref aK, .ref aM, .int (nI st.1), .int (nI st.2.1), .int (nI st.2.2), .int (nI fd), .int (nI sn), .ref aG, .int (nI sd), .int (nI kS), .int (nI ks.1), .int (nI ks.2.1), .int (nI ks.2.2), .int (nI ktm), .int (nI ksn), .ref bH, .ref bW, .ref bK, .ref bM, .ref bG, .long hs]))] (fun _ => [(o, .inr (10, [.ref aP, .int (nI pn), .int (nI en), .int (nI ne), .int (nI ns), .int (nI nb), .int (nI na), .int (nI s.1), .int (nI s.2.1), .int (nI s.2.2), .int (nI tm), .int (nI sr), .ref aH, .ref aW, .ref aD, .ref aK, .ref aM, .int (nI st.1), .int (nI st.2.1), .int (nI st.2.2), .int (nI fd), .int (nI sn), .ref aG, .int (nI sd), .int (nI kS), .int (nI ks.1), .int (nI ks.2.1), .int (nI ks.2.2), .int (nI ktm), .int (nI ksn), .ref bH, .ref bW, .ref bK, .ref bM, .ref bG, .long hs]))]) rfl (by decide) rfl (by decide) (by decide) (by decide) (fun _ => rfl) (lb rfl) dX10_isBoat_10 hM.two (fun _ _ => ?_)
  show G [(o, .inr (10, [.ref aP, .int (nI pn), .int (nI en), .int (nI ne), .int (nI ns), .int (nI nb), .int (nI na), .int (nI s.1), .int (nI s.2.1), .int (nI s.2.2), .int (nI tm), .int (nI sr), .ref aH, .ref aW, .ref aD, .ref aK, .ref aM, .int (nI st.1), .int (nI st.2.1), .int (nI st.2.2), .int (nI fd), .int (nI sn), .ref aG, .int (nI sd), .int (nI kS), .int (nI ks.1), .int (nI ks.2.1), .int (nI ks.2.2), .int (nI ktm), .int (nI ksn), .ref bH, .ref bW, .ref bK, .ref bM, .ref bG, .long hs]))] [(0, .ref o), (1, .int x)] 13 [.int (nI (if (0 : Int64).toInt ≤ (x.toInt64).toInt ∧ (x.toInt64).toInt ≤ (((nI nb) - (nI 1)).toInt64).toInt then 1 else 0))]
  rw [inS (x := x) (n := nb) (by omega)]
  show G [(o, .inr (10, [.ref aP, .int (nI pn), .int (nI en), .int (nI ne), .int (nI ns), .int (nI nb), .int (nI na), .int (nI s.1), .int (nI s.2.1), .int (nI s.2.2), .int (nI tm), .int (nI sr), .ref aH, .ref aW, .ref aD, .ref aK, .ref aM, .int (nI st.1), .int (nI st.2.1), .int (nI st.2.2), .int (nI fd), .int (nI sn), .ref aG, .int (nI sd), .int (nI kS), .int (nI ks.1), .int (nI ks.2.1), .int (nI ks.2.2), .int (nI ktm), .int (nI ksn), .ref bH, .ref bW, .ref bK, .ref bM, .ref bG, .long hs]))] [(0, .ref o), (1, .int x)] 13 [.int (nI (if inR x nb then 1 else 0))]
  exact hret () _ _ _ _ trivial rfl rfl (nbool ifle1) dX10_isBoat_13
set_option maxHeartbeats 4000000 in
set_option maxRecDepth 100000 in
theorem c_X10_isAsker (l : Launch) (D : va_G) (cy : ClassId) (o : Nat) (aP : Nat) (aH : Nat) (aW : Nat) (aD : Nat) (aK : Nat) (aM : Nat) (aG : Nat) (bH : Nat) (bW : Nat) (bK : Nat) (bM : Nat) (bG : Nat) (pn : Nat) (en : Nat) (ne : Nat) (ns : Nat) (nb : Nat) (na : Nat) (tm : Nat) (sr : Nat) (fd : Nat) (sn : Nat) (sd : Nat) (kS : Nat) (ktm : Nat) (ksn : Nat) (s : S3) (st : S3) (ks : S3) (hs : Int64) (x : Int32) (hn : na ≤ 8) : Ct (σ := Unit) l D cy yX10_isAsker cX10_isAsker 2 (some .boolean) { frames := 1, cells := 0, slots := 0, locals := 25 } [.ref o, .int x] [(o, .inr (10, [.ref aP, .int (nI pn), .int (nI en), .int (nI ne), .int (nI ns), .int (nI nb), .int (nI na), .int (nI s.1), .int (nI s.2.1), .int (nI s.2.2), .int (nI tm), .int (nI sr), .ref aH, .ref aW, .ref aD, .ref aK, .ref aM, .int (nI st.1), .int (nI st.2.1), .int (nI st.2.2), .int (nI fd), .int (nI sn), .ref aG, .int (nI sd), .int (nI kS), .int (nI ks.1), .int (nI ks.2.1), .int (nI ks.2.2), .int (nI ktm), .int (nI ksn), .ref bH, .ref bW, .ref bK, .ref bM, .ref bG, .long hs]))] (fun _ => True) (fun _ => some (.int (nI (if inR x na then 1 else 0)))) (fun _ => [(o, .inr (10, [.ref aP, .int (nI pn), .int (nI en), .int (nI ne), .int (nI ns), .int (nI nb), .int (nI na), .int (nI s.1), .int (nI s.2.1), .int (nI s.2.2), .int (nI tm), .int (nI sr), .ref aH, .ref aW, .ref aD, .ref aK, .ref aM, .int (nI st.1), .int (nI st.2.1), .int (nI st.2.2), .int (nI fd), .int (nI sn), .ref aG, .int (nI sd), .int (nI kS), .int (nI ks.1), .int (nI ks.2.1), .int (nI ks.2.2), .int (nI ktm), .int (nI ksn), .ref bH, .ref bW, .ref bK, .ref bM, .ref bG, .long hs]))]) := by
  refine Ct_ofI (by decide) (lb rfl) [(0, .ref o), (1, .int x)] rfl (fun G hM hret => ?_)
  refine j_iload_n (pc := 0) hM dX10_isAsker_0 rfl 1 rfl ?_
  refine j_i2l (pc := 1) hM (v := x.toInt64) dX10_isAsker_1 rfl ?_
  refine j_lconst (pc := 2) hM (v := 0) dX10_isAsker_2 (by decide) ?_
  refine j_aload_n (pc := 3) hM dX10_isAsker_3 rfl 0 rfl ?_
  refine j_get (pc := 4) hM fd_X10_96 0 rfl rfl dX10_isAsker_4 ?_
  refine j_iconst (pc := 7) hM (v := nI 1) dX10_isAsker_7 (by decide) ?_
  refine j_isub (pc := 8) hM (v := (nI na) - (nI 1)) dX10_isAsker_8 rfl ?_
  refine j_i2l (pc := 9) hM (v := ((nI na) - (nI 1)).toInt64) dX10_isAsker_9 rfl ?_
  refine j_callS (pc := 10) hM cs_X10_52 (As := [.long (x.toInt64), .long (0 : Int64), .long (((nI na) - (nI 1)).toInt64)]) (rest := []) (c_X10_in l D cy (x.toInt64) (0 : Int64) (((nI na) - (nI 1)).toInt64)) ⟨lb rfl, lb rfl, lb rfl, lb rfl⟩ rfl [] [0] [0] [(o, .inr (10, [.ref aP, .int (nI pn), .int (nI en), .int (nI ne), .int (nI ns), .int (nI nb), .int (nI na), .int (nI s.1), .int (nI s.2.1), .int (nI s.2.2), .int (nI tm), .int (nI sr), .ref aH, .ref aW, .ref aD, .ref aK, .ref aM, .int (nI st.1), .int (nI st.2.1), .int (nI st.2.2), .int (nI fd), .int (nI sn), .ref aG, .int (nI sd), .int (nI kS), .int (nI ks.1), .int (nI ks.2.1), .int (nI ks.2.2), .int (nI ktm), .int (nI ksn), .ref bH, .ref bW, .ref bK, .ref bM, .ref bG, .long hs]))] (fun _ => [(o, .inr (10, [.ref aP, .int (nI pn), .int (nI en), .int (nI ne), .int (nI ns), .int (nI nb), .int (nI na), .int (nI s.1), .int (nI s.2.1), .int (nI s.2.2), .int (nI tm), .int (nI sr), .ref aH, .ref aW, .ref aD, .ref aK, .ref aM, .int (nI st.1), .int (nI st.2.1), .int (nI st.2.2), .int (nI fd), .int (nI sn), .ref aG, .int (nI sd), .int (nI kS), .int (nI ks.1), .int (nI ks.2.1), .int (nI ks.2.2), .int (nI ktm), .int (nI ksn), .ref bH, .ref bW, .ref bK, .ref bM, .ref bG, .long hs]))]) rfl (by decide) rfl (by decide) (by decide) (by decide) (fun _ => rfl) (lb rfl) dX10_isAsker_10 hM.two (fun _ _ => ?_)
  show G [(o, .inr (10, [.ref aP, .int (nI pn), .int (nI en), .int (nI ne), .int (nI ns), .int (nI nb), .int (nI na), .int (nI s.1), .int (nI s.2.1), .int (nI s.2.2), .int (nI tm), .int (nI sr), .ref aH, .ref aW, .ref aD, .ref aK, .ref aM, .int (nI st.1), .int (nI st.2.1), .int (nI st.2.2), .int (nI fd), .int (nI sn), .ref aG, .int (nI sd), .int (nI kS), .int (nI ks.1), .int (nI ks.2.1), .int (nI ks.2.2), .int (nI ktm), .int (nI ksn), .ref bH, .ref bW, .ref bK, .ref bM, .ref bG, .long hs]))] [(0, .ref o), (1, .int x)] 13 [.int (nI (if (0 : Int64).toInt ≤ (x.toInt64).toInt ∧ (x.toInt64).toInt ≤ (((nI na) - (nI 1)).toInt64).toInt then 1 else 0))]
  rw [inS (x := x) (n := na) (by omega)]
  show G [(o, .inr (10, [.ref aP, .int (nI pn), .int (nI en), .int (nI ne), .int (nI ns), .int (nI nb), .int (nI na), .int (nI s.1), .int (nI s.2.1), .int (nI s.2.2), .int (nI tm), .int (nI sr), .ref aH, .ref aW, .ref aD, .ref aK, .ref aM, .int (nI st.1), .int (nI st.2.1), .int (nI st.2.2), .int (nI fd), .int (nI sn), .ref aG, .int (nI sd), .int (nI kS), .int (nI ks.1), .int (nI ks.2.1), .int (nI ks.2.2), .int (nI ktm), .int (nI ksn), .ref bH, .ref bW, .ref bK, .ref bM, .ref bG, .long hs]))] [(0, .ref o), (1, .int x)] 13 [.int (nI (if inR x na then 1 else 0))]
  exact hret () _ _ _ _ trivial rfl rfl (nbool ifle1) dX10_isAsker_13
set_option maxHeartbeats 4000000 in
set_option maxRecDepth 100000 in
theorem c_X10_begin (l : Launch) (D : va_G) (cy : ClassId) (o : Nat) (aP : Nat) (aH : Nat) (aW : Nat) (aD : Nat) (aK : Nat) (aM : Nat) (aG : Nat) (bH : Nat) (bW : Nat) (bK : Nat) (bM : Nat) (bG : Nat) (pn : Nat) (en : Nat) (ne : Nat) (ns : Nat) (nb : Nat) (na : Nat) (tm : Nat) (sr : Nat) (fd : Nat) (sn : Nat) (sd : Nat) (kS : Nat) (ktm : Nat) (ksn : Nat) (s : S3) (st : S3) (ks : S3) (hs : Int64) : Ct (σ := Unit) l D cy yX10_begin cX10_begin 1 none { frames := 0, cells := 0, slots := 0, locals := 0 } [.ref o] [(o, .inr (10, [.ref aP, .int (nI pn), .int (nI en), .int (nI ne), .int (nI ns), .int (nI nb), .int (nI na), .int (nI s.1), .int (nI s.2.1), .int (nI s.2.2), .int (nI tm), .int (nI sr), .ref aH, .ref aW, .ref aD, .ref aK, .ref aM, .int (nI st.1), .int (nI st.2.1), .int (nI st.2.2), .int (nI fd), .int (nI sn), .ref aG, .int (nI sd), .int (nI kS), .int (nI ks.1), .int (nI ks.2.1), .int (nI ks.2.2), .int (nI ktm), .int (nI ksn), .ref bH, .ref bW, .ref bK, .ref bM, .ref bG, .long hs]))] (fun _ => True) (fun _ => none) (fun _ => [(o, .inr (10, [.ref aP, .int (nI pn), .int (nI en), .int (nI ne), .int (nI ns), .int (nI nb), .int (nI na), .int (nI s.1), .int (nI s.2.1), .int (nI s.2.2), .int (nI tm), .int (nI sr), .ref aH, .ref aW, .ref aD, .ref aK, .ref aM, .int (nI s.1), .int (nI s.2.1), .int (nI s.2.2), .int (nI fd), .int (nI sn), .ref aG, .int (nI sd), .int (nI kS), .int (nI ks.1), .int (nI ks.2.1), .int (nI ks.2.2), .int (nI ktm), .int (nI ksn), .ref bH, .ref bW, .ref bK, .ref bM, .ref bG, .long hs]))]) := by
  refine Ct_ofV (by decide) (lb rfl) [(0, .ref o)] rfl (fun G hM hret => ?_)
  refine j_aload_n (pc := 0) hM dX10_begin_0 rfl 0 rfl ?_
  refine j_aload_n (pc := 1) hM dX10_begin_1 rfl 0 rfl ?_
  refine j_get (pc := 2) hM fd_X10_99 0 rfl rfl dX10_begin_2 ?_
  refine j_put (pc := 5) hM fp_X10_117 [(o, .inr (10, [.ref aP, .int (nI pn), .int (nI en), .int (nI ne), .int (nI ns), .int (nI nb), .int (nI na), .int (nI s.1), .int (nI s.2.1), .int (nI s.2.2), .int (nI tm), .int (nI sr), .ref aH, .ref aW, .ref aD, .ref aK, .ref aM, .int (nI s.1), .int (nI st.2.1), .int (nI st.2.2), .int (nI fd), .int (nI sn), .ref aG, .int (nI sd), .int (nI kS), .int (nI ks.1), .int (nI ks.2.1), .int (nI ks.2.2), .int (nI ktm), .int (nI ksn), .ref bH, .ref bW, .ref bK, .ref bM, .ref bG, .long hs]))] 0 rfl (lb rfl) rfl rfl rfl dX10_begin_5 ?_
  refine j_aload_n (pc := 8) hM dX10_begin_8 rfl 0 rfl ?_
  refine j_aload_n (pc := 9) hM dX10_begin_9 rfl 0 rfl ?_
  refine j_get (pc := 10) hM fd_X10_102 0 rfl rfl dX10_begin_10 ?_
  refine j_put (pc := 13) hM fp_X10_120 [(o, .inr (10, [.ref aP, .int (nI pn), .int (nI en), .int (nI ne), .int (nI ns), .int (nI nb), .int (nI na), .int (nI s.1), .int (nI s.2.1), .int (nI s.2.2), .int (nI tm), .int (nI sr), .ref aH, .ref aW, .ref aD, .ref aK, .ref aM, .int (nI s.1), .int (nI s.2.1), .int (nI st.2.2), .int (nI fd), .int (nI sn), .ref aG, .int (nI sd), .int (nI kS), .int (nI ks.1), .int (nI ks.2.1), .int (nI ks.2.2), .int (nI ktm), .int (nI ksn), .ref bH, .ref bW, .ref bK, .ref bM, .ref bG, .long hs]))] 0 rfl (lb rfl) rfl rfl rfl dX10_begin_13 ?_
  refine j_aload_n (pc := 16) hM dX10_begin_16 rfl 0 rfl ?_
  refine j_aload_n (pc := 17) hM dX10_begin_17 rfl 0 rfl ?_
  refine j_get (pc := 18) hM fd_X10_105 0 rfl rfl dX10_begin_18 ?_
  refine j_put (pc := 21) hM fp_X10_123 [(o, .inr (10, [.ref aP, .int (nI pn), .int (nI en), .int (nI ne), .int (nI ns), .int (nI nb), .int (nI na), .int (nI s.1), .int (nI s.2.1), .int (nI s.2.2), .int (nI tm), .int (nI sr), .ref aH, .ref aW, .ref aD, .ref aK, .ref aM, .int (nI s.1), .int (nI s.2.1), .int (nI s.2.2), .int (nI fd), .int (nI sn), .ref aG, .int (nI sd), .int (nI kS), .int (nI ks.1), .int (nI ks.2.1), .int (nI ks.2.2), .int (nI ktm), .int (nI ksn), .ref bH, .ref bW, .ref bK, .ref bM, .ref bG, .long hs]))] 0 rfl (lb rfl) rfl rfl rfl dX10_begin_21 ?_
  exact hret () _ _ _ trivial rfl rfl dX10_begin_24
set_option maxHeartbeats 4000000 in
set_option maxRecDepth 100000 in
theorem c_X10_keep (l : Launch) (D : va_G) (cy : ClassId) (o : Nat) (aP : Nat) (aH : Nat) (aW : Nat) (aD : Nat) (aK : Nat) (aM : Nat) (aG : Nat) (bH : Nat) (bW : Nat) (bK : Nat) (bM : Nat) (bG : Nat) (pn : Nat) (en : Nat) (ne : Nat) (ns : Nat) (nb : Nat) (na : Nat) (tm : Nat) (sr : Nat) (fd : Nat) (sn : Nat) (sd : Nat) (kS : Nat) (ktm : Nat) (ksn : Nat) (s : S3) (st : S3) (ks : S3) (hs : Int64) : Ct (σ := Unit) l D cy yX10_keep cX10_keep 1 none { frames := 0, cells := 0, slots := 0, locals := 0 } [.ref o] [(o, .inr (10, [.ref aP, .int (nI pn), .int (nI en), .int (nI ne), .int (nI ns), .int (nI nb), .int (nI na), .int (nI s.1), .int (nI s.2.1), .int (nI s.2.2), .int (nI tm), .int (nI sr), .ref aH, .ref aW, .ref aD, .ref aK, .ref aM, .int (nI st.1), .int (nI st.2.1), .int (nI st.2.2), .int (nI fd), .int (nI sn), .ref aG, .int (nI sd), .int (nI kS), .int (nI ks.1), .int (nI ks.2.1), .int (nI ks.2.2), .int (nI ktm), .int (nI ksn), .ref bH, .ref bW, .ref bK, .ref bM, .ref bG, .long hs]))] (fun _ => True) (fun _ => none) (fun _ => [(o, .inr (10, [.ref aP, .int (nI pn), .int (nI en), .int (nI ne), .int (nI ns), .int (nI nb), .int (nI na), .int (nI st.1), .int (nI st.2.1), .int (nI st.2.2), .int (nI tm), .int (nI sr), .ref aH, .ref aW, .ref aD, .ref aK, .ref aM, .int (nI st.1), .int (nI st.2.1), .int (nI st.2.2), .int (nI fd), .int (nI sn), .ref aG, .int (nI sd), .int (nI kS), .int (nI ks.1), .int (nI ks.2.1), .int (nI ks.2.2), .int (nI ktm), .int (nI ksn), .ref bH, .ref bW, .ref bK, .ref bM, .ref bG, .long hs]))]) := by
  refine Ct_ofV (by decide) (lb rfl) [(0, .ref o)] rfl (fun G hM hret => ?_)
  refine j_aload_n (pc := 0) hM dX10_keep_0 rfl 0 rfl ?_
  refine j_aload_n (pc := 1) hM dX10_keep_1 rfl 0 rfl ?_
  refine j_get (pc := 2) hM fd_X10_117 0 rfl rfl dX10_keep_2 ?_
  refine j_put (pc := 5) hM fp_X10_99 [(o, .inr (10, [.ref aP, .int (nI pn), .int (nI en), .int (nI ne), .int (nI ns), .int (nI nb), .int (nI na), .int (nI st.1), .int (nI s.2.1), .int (nI s.2.2), .int (nI tm), .int (nI sr), .ref aH, .ref aW, .ref aD, .ref aK, .ref aM, .int (nI st.1), .int (nI st.2.1), .int (nI st.2.2), .int (nI fd), .int (nI sn), .ref aG, .int (nI sd), .int (nI kS), .int (nI ks.1), .int (nI ks.2.1), .int (nI ks.2.2), .int (nI ktm), .int (nI ksn), .ref bH, .ref bW, .ref bK, .ref bM, .ref bG, .long hs]))] 0 rfl (lb rfl) rfl rfl rfl dX10_keep_5 ?_
  refine j_aload_n (pc := 8) hM dX10_keep_8 rfl 0 rfl ?_
  refine j_aload_n (pc := 9) hM dX10_keep_9 rfl 0 rfl ?_
  refine j_get (pc := 10) hM fd_X10_120 0 rfl rfl dX10_keep_10 ?_
  refine j_put (pc := 13) hM fp_X10_102 [(o, .inr (10, [.ref aP, .int (nI pn), .int (nI en), .int (nI ne), .int (nI ns), .int (nI nb), .int (nI na), .int (nI st.1), .int (nI st.2.1), .int (nI s.2.2), .int (nI tm), .int (nI sr), .ref aH, .ref aW, .ref aD, .ref aK, .ref aM, .int (nI st.1), .int (nI st.2.1), .int (nI st.2.2), .int (nI fd), .int (nI sn), .ref aG, .int (nI sd), .int (nI kS), .int (nI ks.1), .int (nI ks.2.1), .int (nI ks.2.2), .int (nI ktm), .int (nI ksn), .ref bH, .ref bW, .ref bK, .ref bM, .ref bG, .long hs]))] 0 rfl (lb rfl) rfl rfl rfl dX10_keep_13 ?_
  refine j_aload_n (pc := 16) hM dX10_keep_16 rfl 0 rfl ?_
  refine j_aload_n (pc := 17) hM dX10_keep_17 rfl 0 rfl ?_
  refine j_get (pc := 18) hM fd_X10_123 0 rfl rfl dX10_keep_18 ?_
  refine j_put (pc := 21) hM fp_X10_105 [(o, .inr (10, [.ref aP, .int (nI pn), .int (nI en), .int (nI ne), .int (nI ns), .int (nI nb), .int (nI na), .int (nI st.1), .int (nI st.2.1), .int (nI st.2.2), .int (nI tm), .int (nI sr), .ref aH, .ref aW, .ref aD, .ref aK, .ref aM, .int (nI st.1), .int (nI st.2.1), .int (nI st.2.2), .int (nI fd), .int (nI sn), .ref aG, .int (nI sd), .int (nI kS), .int (nI ks.1), .int (nI ks.2.1), .int (nI ks.2.2), .int (nI ktm), .int (nI ksn), .ref bH, .ref bW, .ref bK, .ref bM, .ref bG, .long hs]))] 0 rfl (lb rfl) rfl rfl rfl dX10_keep_21 ?_
  exact hret () _ _ _ trivial rfl rfl dX10_keep_24
set_option maxHeartbeats 4000000 in
set_option maxRecDepth 100000 in
theorem c_X10_askBy (l : Launch) (D : va_G) (cy : ClassId) (o : Nat) (aP : Nat) (aH : Nat) (aW : Nat) (aD : Nat) (aK : Nat) (aM : Nat) (aG : Nat) (bH : Nat) (bW : Nat) (bK : Nat) (bM : Nat) (bG : Nat) (pn : Nat) (en : Nat) (ne : Nat) (ns : Nat) (nb : Nat) (na : Nat) (tm : Nat) (sr : Nat) (fd : Nat) (sn : Nat) (sd : Nat) (kS : Nat) (ktm : Nat) (ksn : Nat) (s : S3) (st : S3) (ks : S3) (hs : Int64) (kk : Nat) (mm : Nat) (ost : okS st) (hkk : kk ≤ 4) (hmm : mm ≤ 9) : Ct (σ := Unit) l D cy yX10_askBy cX10_askBy 5 none { frames := 0, cells := 0, slots := 0, locals := 0 } [.ref o, .int (nI kk), .int (nI mm)] [(o, .inr (10, [.ref aP, .int (nI pn), .int (nI en), .int (nI ne), .int (nI ns), .int (nI nb), .int (nI na), .int (nI s.1), .int (nI s.2.1), .int (nI s.2.2), .int (nI tm), .int (nI sr), .ref aH, .ref aW, .ref aD, .ref aK, .ref aM, .int (nI st.1), .int (nI st.2.1), .int (nI st.2.2), .int (nI fd), .int (nI sn), .ref aG, .int (nI sd), .int (nI kS), .int (nI ks.1), .int (nI ks.2.1), .int (nI ks.2.2), .int (nI ktm), .int (nI ksn), .ref bH, .ref bW, .ref bK, .ref bM, .ref bG, .long hs]))] (fun _ => True) (fun _ => none) (fun _ => [(o, .inr (10, [.ref aP, .int (nI pn), .int (nI en), .int (nI ne), .int (nI ns), .int (nI nb), .int (nI na), .int (nI s.1), .int (nI s.2.1), .int (nI s.2.2), .int (nI tm), .int (nI sr), .ref aH, .ref aW, .ref aD, .ref aK, .ref aM, .int (nI ((hear kk mm st).1)), .int (nI ((hear kk mm st).2.1)), .int (nI ((hear kk mm st).2.2)), .int (nI fd), .int (nI sn), .ref aG, .int (nI sd), .int (nI kS), .int (nI ks.1), .int (nI ks.2.1), .int (nI ks.2.2), .int (nI ktm), .int (nI ksn), .ref bH, .ref bW, .ref bK, .ref bM, .ref bG, .long hs]))]) := by
  refine Ct_ofV (by decide) (lb rfl) [(0, .ref o), (1, .int (nI kk)), (2, .int (nI mm))] rfl (fun G hM hret => ?_)
  obtain ⟨o1, o2, o3⟩ := ost
  refine j_iload_n (pc := 0) hM dX10_askBy_0 rfl 2 rfl ?_
  refine j_aload_n (pc := 1) hM dX10_askBy_1 rfl 0 rfl ?_
  refine j_get (pc := 2) hM fd_X10_120 0 rfl rfl dX10_askBy_2 ?_
  refine j_icmp_le (pc := 5) hM 17 dX10_askBy_5 (by decide) (cLE (by omega) (by omega)) (fun c5 => ?_) (fun c5 => ?_)
  · skip
    refine j_iconst (pc := 17) hM (v := nI 0) dX10_askBy_17 (by decide) ?_
    refine j_istore_n (pc := 18) hM [(3, .int (nI 0)), (0, .ref o), (1, .int (nI kk)), (2, .int (nI mm))] dX10_askBy_18 rfl (by decide) rfl ?_
    refine j_iconst (pc := 19) hM (v := nI 0) dX10_askBy_19 (by decide) ?_
    refine j_istore (pc := 20) hM [(4, .int (nI 0)), (3, .int (nI 0)), (0, .ref o), (1, .int (nI kk)), (2, .int (nI mm))] dX10_askBy_20 (by decide) rfl ?_
    refine j_iload_n (pc := 22) hM dX10_askBy_22 rfl 3 rfl ?_
    rcases (show kk = 1 ∨ kk = 2 ∨ kk = 3 ∨ kk = 4 ∨ (kk < 1 ∨ 4 < kk) by omega) with s23 | s23 | s23 | s23 | s23
    · skip
      refine j_tsN (pc := 23) hM 1 52 dX10_askBy_23 s23 (by decide) (by decide) (by decide) rfl (by decide) ?_
      refine j_iload_n (pc := 52) hM dX10_askBy_52 rfl 1 rfl ?_
      refine j_iconst (pc := 53) hM (v := nI 3) dX10_askBy_53 (by decide) ?_
      refine j_idiv (pc := 54) hM (v := nI (0 / 3)) dX10_askBy_54 (nne0 (by omega) (by omega)) (ndiv (by omega) (by omega) (by omega)) ?_
      refine j_istore_n (pc := 55) hM [(3, .int (nI (0 / 3))), (4, .int (nI 0)), (0, .ref o), (1, .int (nI kk)), (2, .int (nI mm))] dX10_askBy_55 rfl (by decide) rfl ?_
      refine j_iconst (pc := 56) hM (v := nI 1) dX10_askBy_56 (by decide) ?_
      refine j_istore (pc := 57) hM [(4, .int (nI 1)), (3, .int (nI (0 / 3))), (0, .ref o), (1, .int (nI kk)), (2, .int (nI mm))] dX10_askBy_57 (by decide) rfl ?_
      refine j_goto (pc := 59) hM 90 dX10_askBy_59 (by decide) ?_
      refine j_aload_n (pc := 90) hM dX10_askBy_90 rfl 2 rfl ?_
      refine j_aload_n (pc := 91) hM dX10_askBy_91 rfl 2 rfl ?_
      refine j_get (pc := 92) hM fd_X10_117 0 rfl rfl dX10_askBy_92 ?_
      refine j_iload_n (pc := 95) hM dX10_askBy_95 rfl 1 rfl ?_
      refine j_iadd (pc := 96) hM (v := nI (st.1 + (0 / 3))) dX10_askBy_96 (nI_add _ _) ?_
      refine j_bipush (pc := 97) hM (v := nI 20) dX10_askBy_97 (by decide) ?_
      refine j_icmp_le (pc := 99) hM 107 dX10_askBy_99 (by decide) (cLE (by omega) (by omega)) (fun c99 => ?_) (fun c99 => ?_)
      · skip
        refine j_aload_n (pc := 107) hM dX10_askBy_107 rfl 2 rfl ?_
        refine j_get (pc := 108) hM fd_X10_117 0 rfl rfl dX10_askBy_108 ?_
        refine j_iload_n (pc := 111) hM dX10_askBy_111 rfl 1 rfl ?_
        refine j_iadd (pc := 112) hM (v := nI (st.1 + (0 / 3))) dX10_askBy_112 (nI_add _ _) ?_
        refine j_put (pc := 113) hM fp_X10_117 [(o, .inr (10, [.ref aP, .int (nI pn), .int (nI en), .int (nI ne), .int (nI ns), .int (nI nb), .int (nI na), .int (nI s.1), .int (nI s.2.1), .int (nI s.2.2), .int (nI tm), .int (nI sr), .ref aH, .ref aW, .ref aD, .ref aK, .ref aM, .int (nI (st.1 + (0 / 3))), .int (nI st.2.1), .int (nI st.2.2), .int (nI fd), .int (nI sn), .ref aG, .int (nI sd), .int (nI kS), .int (nI ks.1), .int (nI ks.2.1), .int (nI ks.2.2), .int (nI ktm), .int (nI ksn), .ref bH, .ref bW, .ref bK, .ref bM, .ref bG, .long hs]))] 0 rfl (lb rfl) rfl rfl rfl dX10_askBy_113 ?_
        refine j_aload_n (pc := 116) hM dX10_askBy_116 rfl 2 rfl ?_
        refine j_aload_n (pc := 117) hM dX10_askBy_117 rfl 2 rfl ?_
        refine j_get (pc := 118) hM fd_X10_120 0 rfl rfl dX10_askBy_118 ?_
        refine j_iload (pc := 121) hM dX10_askBy_121 0 rfl ?_
        refine j_iadd (pc := 123) hM (v := nI (st.2.1 + 1)) dX10_askBy_123 (nI_add _ _) ?_
        refine j_bipush (pc := 124) hM (v := nI 9) dX10_askBy_124 (by decide) ?_
        refine j_icmp_le (pc := 126) hM 134 dX10_askBy_126 (by decide) (cLE (by omega) (by omega)) (fun c126 => ?_) (fun c126 => ?_)
        · skip
          refine j_aload_n (pc := 134) hM dX10_askBy_134 rfl 2 rfl ?_
          refine j_get (pc := 135) hM fd_X10_120 0 rfl rfl dX10_askBy_135 ?_
          refine j_iload (pc := 138) hM dX10_askBy_138 0 rfl ?_
          refine j_iadd (pc := 140) hM (v := nI (st.2.1 + 1)) dX10_askBy_140 (nI_add _ _) ?_
          refine j_put (pc := 141) hM fp_X10_120 [(o, .inr (10, [.ref aP, .int (nI pn), .int (nI en), .int (nI ne), .int (nI ns), .int (nI nb), .int (nI na), .int (nI s.1), .int (nI s.2.1), .int (nI s.2.2), .int (nI tm), .int (nI sr), .ref aH, .ref aW, .ref aD, .ref aK, .ref aM, .int (nI (st.1 + (0 / 3))), .int (nI (st.2.1 + 1)), .int (nI st.2.2), .int (nI fd), .int (nI sn), .ref aG, .int (nI sd), .int (nI kS), .int (nI ks.1), .int (nI ks.2.1), .int (nI ks.2.2), .int (nI ktm), .int (nI ksn), .ref bH, .ref bW, .ref bK, .ref bM, .ref bG, .long hs]))] 0 rfl (lb rfl) rfl rfl rfl dX10_askBy_141 ?_
          exact hret () _ _ _ trivial (eq3 (fun (z0 : Nat) (z1 : Nat) (z2 : Nat) => ([(o, .inr (10, [.ref aP, .int (nI pn), .int (nI en), .int (nI ne), .int (nI ns), .int (nI nb), .int (nI na), .int (nI s.1), .int (nI s.2.1), .int (nI s.2.2), .int (nI tm), .int (nI sr), .ref aH, .ref aW, .ref aD, .ref aK, .ref aM, .int (nI z0), .int (nI z1), .int (nI z2), .int (nI fd), .int (nI sn), .ref aG, .int (nI sd), .int (nI kS), .int (nI ks.1), .int (nI ks.2.1), .int (nI ks.2.2), .int (nI ktm), .int (nI ksn), .ref bH, .ref bW, .ref bK, .ref bM, .ref bG, .long hs]))] : va_W)) (show (st.1 + (0 / 3)) = ((hear kk mm st).1) from by simp only [hear, rise, offn, thk]; repeat' (first | omega | split)) (show (st.2.1 + 1) = ((hear kk mm st).2.1) from by simp only [hear, rise, offn, thk]; repeat' (first | omega | split)) (show st.2.2 = ((hear kk mm st).2.2) from by simp only [hear, rise, offn, thk]; repeat' (first | omega | split))) rfl dX10_askBy_144
        · skip
          refine j_bipush (pc := 129) hM (v := nI 9) dX10_askBy_129 (by decide) ?_
          refine j_goto (pc := 131) hM 141 dX10_askBy_131 (by decide) ?_
          refine j_put (pc := 141) hM fp_X10_120 [(o, .inr (10, [.ref aP, .int (nI pn), .int (nI en), .int (nI ne), .int (nI ns), .int (nI nb), .int (nI na), .int (nI s.1), .int (nI s.2.1), .int (nI s.2.2), .int (nI tm), .int (nI sr), .ref aH, .ref aW, .ref aD, .ref aK, .ref aM, .int (nI (st.1 + (0 / 3))), .int (nI 9), .int (nI st.2.2), .int (nI fd), .int (nI sn), .ref aG, .int (nI sd), .int (nI kS), .int (nI ks.1), .int (nI ks.2.1), .int (nI ks.2.2), .int (nI ktm), .int (nI ksn), .ref bH, .ref bW, .ref bK, .ref bM, .ref bG, .long hs]))] 0 rfl (lb rfl) rfl rfl rfl dX10_askBy_141 ?_
          exact hret () _ _ _ trivial (eq3 (fun (z0 : Nat) (z1 : Nat) (z2 : Nat) => ([(o, .inr (10, [.ref aP, .int (nI pn), .int (nI en), .int (nI ne), .int (nI ns), .int (nI nb), .int (nI na), .int (nI s.1), .int (nI s.2.1), .int (nI s.2.2), .int (nI tm), .int (nI sr), .ref aH, .ref aW, .ref aD, .ref aK, .ref aM, .int (nI z0), .int (nI z1), .int (nI z2), .int (nI fd), .int (nI sn), .ref aG, .int (nI sd), .int (nI kS), .int (nI ks.1), .int (nI ks.2.1), .int (nI ks.2.2), .int (nI ktm), .int (nI ksn), .ref bH, .ref bW, .ref bK, .ref bM, .ref bG, .long hs]))] : va_W)) (show (st.1 + (0 / 3)) = ((hear kk mm st).1) from by simp only [hear, rise, offn, thk]; repeat' (first | omega | split)) (show 9 = ((hear kk mm st).2.1) from by simp only [hear, rise, offn, thk]; repeat' (first | omega | split)) (show st.2.2 = ((hear kk mm st).2.2) from by simp only [hear, rise, offn, thk]; repeat' (first | omega | split))) rfl dX10_askBy_144
      · skip
        refine j_bipush (pc := 102) hM (v := nI 20) dX10_askBy_102 (by decide) ?_
        refine j_goto (pc := 104) hM 113 dX10_askBy_104 (by decide) ?_
        refine j_put (pc := 113) hM fp_X10_117 [(o, .inr (10, [.ref aP, .int (nI pn), .int (nI en), .int (nI ne), .int (nI ns), .int (nI nb), .int (nI na), .int (nI s.1), .int (nI s.2.1), .int (nI s.2.2), .int (nI tm), .int (nI sr), .ref aH, .ref aW, .ref aD, .ref aK, .ref aM, .int (nI 20), .int (nI st.2.1), .int (nI st.2.2), .int (nI fd), .int (nI sn), .ref aG, .int (nI sd), .int (nI kS), .int (nI ks.1), .int (nI ks.2.1), .int (nI ks.2.2), .int (nI ktm), .int (nI ksn), .ref bH, .ref bW, .ref bK, .ref bM, .ref bG, .long hs]))] 0 rfl (lb rfl) rfl rfl rfl dX10_askBy_113 ?_
        refine j_aload_n (pc := 116) hM dX10_askBy_116 rfl 2 rfl ?_
        refine j_aload_n (pc := 117) hM dX10_askBy_117 rfl 2 rfl ?_
        refine j_get (pc := 118) hM fd_X10_120 0 rfl rfl dX10_askBy_118 ?_
        refine j_iload (pc := 121) hM dX10_askBy_121 0 rfl ?_
        refine j_iadd (pc := 123) hM (v := nI (st.2.1 + 1)) dX10_askBy_123 (nI_add _ _) ?_
        refine j_bipush (pc := 124) hM (v := nI 9) dX10_askBy_124 (by decide) ?_
        refine j_icmp_le (pc := 126) hM 134 dX10_askBy_126 (by decide) (cLE (by omega) (by omega)) (fun c126 => ?_) (fun c126 => ?_)
        · skip
          refine j_aload_n (pc := 134) hM dX10_askBy_134 rfl 2 rfl ?_
          refine j_get (pc := 135) hM fd_X10_120 0 rfl rfl dX10_askBy_135 ?_
          refine j_iload (pc := 138) hM dX10_askBy_138 0 rfl ?_
          refine j_iadd (pc := 140) hM (v := nI (st.2.1 + 1)) dX10_askBy_140 (nI_add _ _) ?_
          refine j_put (pc := 141) hM fp_X10_120 [(o, .inr (10, [.ref aP, .int (nI pn), .int (nI en), .int (nI ne), .int (nI ns), .int (nI nb), .int (nI na), .int (nI s.1), .int (nI s.2.1), .int (nI s.2.2), .int (nI tm), .int (nI sr), .ref aH, .ref aW, .ref aD, .ref aK, .ref aM, .int (nI 20), .int (nI (st.2.1 + 1)), .int (nI st.2.2), .int (nI fd), .int (nI sn), .ref aG, .int (nI sd), .int (nI kS), .int (nI ks.1), .int (nI ks.2.1), .int (nI ks.2.2), .int (nI ktm), .int (nI ksn), .ref bH, .ref bW, .ref bK, .ref bM, .ref bG, .long hs]))] 0 rfl (lb rfl) rfl rfl rfl dX10_askBy_141 ?_
          exact hret () _ _ _ trivial (eq3 (fun (z0 : Nat) (z1 : Nat) (z2 : Nat) => ([(o, .inr (10, [.ref aP, .int (nI pn), .int (nI en), .int (nI ne), .int (nI ns), .int (nI nb), .int (nI na), .int (nI s.1), .int (nI s.2.1), .int (nI s.2.2), .int (nI tm), .int (nI sr), .ref aH, .ref aW, .ref aD, .ref aK, .ref aM, .int (nI z0), .int (nI z1), .int (nI z2), .int (nI fd), .int (nI sn), .ref aG, .int (nI sd), .int (nI kS), .int (nI ks.1), .int (nI ks.2.1), .int (nI ks.2.2), .int (nI ktm), .int (nI ksn), .ref bH, .ref bW, .ref bK, .ref bM, .ref bG, .long hs]))] : va_W)) (show 20 = ((hear kk mm st).1) from by simp only [hear, rise, offn, thk]; repeat' (first | omega | split)) (show (st.2.1 + 1) = ((hear kk mm st).2.1) from by simp only [hear, rise, offn, thk]; repeat' (first | omega | split)) (show st.2.2 = ((hear kk mm st).2.2) from by simp only [hear, rise, offn, thk]; repeat' (first | omega | split))) rfl dX10_askBy_144
        · skip
          refine j_bipush (pc := 129) hM (v := nI 9) dX10_askBy_129 (by decide) ?_
          refine j_goto (pc := 131) hM 141 dX10_askBy_131 (by decide) ?_
          refine j_put (pc := 141) hM fp_X10_120 [(o, .inr (10, [.ref aP, .int (nI pn), .int (nI en), .int (nI ne), .int (nI ns), .int (nI nb), .int (nI na), .int (nI s.1), .int (nI s.2.1), .int (nI s.2.2), .int (nI tm), .int (nI sr), .ref aH, .ref aW, .ref aD, .ref aK, .ref aM, .int (nI 20), .int (nI 9), .int (nI st.2.2), .int (nI fd), .int (nI sn), .ref aG, .int (nI sd), .int (nI kS), .int (nI ks.1), .int (nI ks.2.1), .int (nI ks.2.2), .int (nI ktm), .int (nI ksn), .ref bH, .ref bW, .ref bK, .ref bM, .ref bG, .long hs]))] 0 rfl (lb rfl) rfl rfl rfl dX10_askBy_141 ?_
          exact hret () _ _ _ trivial (eq3 (fun (z0 : Nat) (z1 : Nat) (z2 : Nat) => ([(o, .inr (10, [.ref aP, .int (nI pn), .int (nI en), .int (nI ne), .int (nI ns), .int (nI nb), .int (nI na), .int (nI s.1), .int (nI s.2.1), .int (nI s.2.2), .int (nI tm), .int (nI sr), .ref aH, .ref aW, .ref aD, .ref aK, .ref aM, .int (nI z0), .int (nI z1), .int (nI z2), .int (nI fd), .int (nI sn), .ref aG, .int (nI sd), .int (nI kS), .int (nI ks.1), .int (nI ks.2.1), .int (nI ks.2.2), .int (nI ktm), .int (nI ksn), .ref bH, .ref bW, .ref bK, .ref bM, .ref bG, .long hs]))] : va_W)) (show 20 = ((hear kk mm st).1) from by simp only [hear, rise, offn, thk]; repeat' (first | omega | split)) (show 9 = ((hear kk mm st).2.1) from by simp only [hear, rise, offn, thk]; repeat' (first | omega | split)) (show st.2.2 = ((hear kk mm st).2.2) from by simp only [hear, rise, offn, thk]; repeat' (first | omega | split))) rfl dX10_askBy_144
    · skip
      refine j_tsN (pc := 23) hM 2 70 dX10_askBy_23 s23 (by decide) (by decide) (by decide) rfl (by decide) ?_
      refine j_iload_n (pc := 70) hM dX10_askBy_70 rfl 1 rfl ?_
      refine j_iconst (pc := 71) hM (v := nI 2) dX10_askBy_71 (by decide) ?_
      refine j_imul (pc := 72) hM (v := nI (0 * 2)) dX10_askBy_72 (nmul _ _) ?_
      refine j_istore_n (pc := 73) hM [(3, .int (nI (0 * 2))), (4, .int (nI 0)), (0, .ref o), (1, .int (nI kk)), (2, .int (nI mm))] dX10_askBy_73 rfl (by decide) rfl ?_
      refine j_iconst (pc := 74) hM (v := nI 1) dX10_askBy_74 (by decide) ?_
      refine j_istore (pc := 75) hM [(4, .int (nI 1)), (3, .int (nI (0 * 2))), (0, .ref o), (1, .int (nI kk)), (2, .int (nI mm))] dX10_askBy_75 (by decide) rfl ?_
      refine j_goto (pc := 77) hM 90 dX10_askBy_77 (by decide) ?_
      refine j_aload_n (pc := 90) hM dX10_askBy_90 rfl 2 rfl ?_
      refine j_aload_n (pc := 91) hM dX10_askBy_91 rfl 2 rfl ?_
      refine j_get (pc := 92) hM fd_X10_117 0 rfl rfl dX10_askBy_92 ?_
      refine j_iload_n (pc := 95) hM dX10_askBy_95 rfl 1 rfl ?_
      refine j_iadd (pc := 96) hM (v := nI (st.1 + (0 * 2))) dX10_askBy_96 (nI_add _ _) ?_
      refine j_bipush (pc := 97) hM (v := nI 20) dX10_askBy_97 (by decide) ?_
      refine j_icmp_le (pc := 99) hM 107 dX10_askBy_99 (by decide) (cLE (by omega) (by omega)) (fun c99 => ?_) (fun c99 => ?_)
      · skip
        refine j_aload_n (pc := 107) hM dX10_askBy_107 rfl 2 rfl ?_
        refine j_get (pc := 108) hM fd_X10_117 0 rfl rfl dX10_askBy_108 ?_
        refine j_iload_n (pc := 111) hM dX10_askBy_111 rfl 1 rfl ?_
        refine j_iadd (pc := 112) hM (v := nI (st.1 + (0 * 2))) dX10_askBy_112 (nI_add _ _) ?_
        refine j_put (pc := 113) hM fp_X10_117 [(o, .inr (10, [.ref aP, .int (nI pn), .int (nI en), .int (nI ne), .int (nI ns), .int (nI nb), .int (nI na), .int (nI s.1), .int (nI s.2.1), .int (nI s.2.2), .int (nI tm), .int (nI sr), .ref aH, .ref aW, .ref aD, .ref aK, .ref aM, .int (nI (st.1 + (0 * 2))), .int (nI st.2.1), .int (nI st.2.2), .int (nI fd), .int (nI sn), .ref aG, .int (nI sd), .int (nI kS), .int (nI ks.1), .int (nI ks.2.1), .int (nI ks.2.2), .int (nI ktm), .int (nI ksn), .ref bH, .ref bW, .ref bK, .ref bM, .ref bG, .long hs]))] 0 rfl (lb rfl) rfl rfl rfl dX10_askBy_113 ?_
        refine j_aload_n (pc := 116) hM dX10_askBy_116 rfl 2 rfl ?_
        refine j_aload_n (pc := 117) hM dX10_askBy_117 rfl 2 rfl ?_
        refine j_get (pc := 118) hM fd_X10_120 0 rfl rfl dX10_askBy_118 ?_
        refine j_iload (pc := 121) hM dX10_askBy_121 0 rfl ?_
        refine j_iadd (pc := 123) hM (v := nI (st.2.1 + 1)) dX10_askBy_123 (nI_add _ _) ?_
        refine j_bipush (pc := 124) hM (v := nI 9) dX10_askBy_124 (by decide) ?_
        refine j_icmp_le (pc := 126) hM 134 dX10_askBy_126 (by decide) (cLE (by omega) (by omega)) (fun c126 => ?_) (fun c126 => ?_)
        · skip
          refine j_aload_n (pc := 134) hM dX10_askBy_134 rfl 2 rfl ?_
          refine j_get (pc := 135) hM fd_X10_120 0 rfl rfl dX10_askBy_135 ?_
          refine j_iload (pc := 138) hM dX10_askBy_138 0 rfl ?_
          refine j_iadd (pc := 140) hM (v := nI (st.2.1 + 1)) dX10_askBy_140 (nI_add _ _) ?_
          refine j_put (pc := 141) hM fp_X10_120 [(o, .inr (10, [.ref aP, .int (nI pn), .int (nI en), .int (nI ne), .int (nI ns), .int (nI nb), .int (nI na), .int (nI s.1), .int (nI s.2.1), .int (nI s.2.2), .int (nI tm), .int (nI sr), .ref aH, .ref aW, .ref aD, .ref aK, .ref aM, .int (nI (st.1 + (0 * 2))), .int (nI (st.2.1 + 1)), .int (nI st.2.2), .int (nI fd), .int (nI sn), .ref aG, .int (nI sd), .int (nI kS), .int (nI ks.1), .int (nI ks.2.1), .int (nI ks.2.2), .int (nI ktm), .int (nI ksn), .ref bH, .ref bW, .ref bK, .ref bM, .ref bG, .long hs]))] 0 rfl (lb rfl) rfl rfl rfl dX10_askBy_141 ?_
          exact hret () _ _ _ trivial (eq3 (fun (z0 : Nat) (z1 : Nat) (z2 : Nat) => ([(o, .inr (10, [.ref aP, .int (nI pn), .int (nI en), .int (nI ne), .int (nI ns), .int (nI nb), .int (nI na), .int (nI s.1), .int (nI s.2.1), .int (nI s.2.2), .int (nI tm), .int (nI sr), .ref aH, .ref aW, .ref aD, .ref aK, .ref aM, .int (nI z0), .int (nI z1), .int (nI z2), .int (nI fd), .int (nI sn), .ref aG, .int (nI sd), .int (nI kS), .int (nI ks.1), .int (nI ks.2.1), .int (nI ks.2.2), .int (nI ktm), .int (nI ksn), .ref bH, .ref bW, .ref bK, .ref bM, .ref bG, .long hs]))] : va_W)) (show (st.1 + (0 * 2)) = ((hear kk mm st).1) from by simp only [hear, rise, offn, thk]; repeat' (first | omega | split)) (show (st.2.1 + 1) = ((hear kk mm st).2.1) from by simp only [hear, rise, offn, thk]; repeat' (first | omega | split)) (show st.2.2 = ((hear kk mm st).2.2) from by simp only [hear, rise, offn, thk]; repeat' (first | omega | split))) rfl dX10_askBy_144
        · skip
          refine j_bipush (pc := 129) hM (v := nI 9) dX10_askBy_129 (by decide) ?_
          refine j_goto (pc := 131) hM 141 dX10_askBy_131 (by decide) ?_
          refine j_put (pc := 141) hM fp_X10_120 [(o, .inr (10, [.ref aP, .int (nI pn), .int (nI en), .int (nI ne), .int (nI ns), .int (nI nb), .int (nI na), .int (nI s.1), .int (nI s.2.1), .int (nI s.2.2), .int (nI tm), .int (nI sr), .ref aH, .ref aW, .ref aD, .ref aK, .ref aM, .int (nI (st.1 + (0 * 2))), .int (nI 9), .int (nI st.2.2), .int (nI fd), .int (nI sn), .ref aG, .int (nI sd), .int (nI kS), .int (nI ks.1), .int (nI ks.2.1), .int (nI ks.2.2), .int (nI ktm), .int (nI ksn), .ref bH, .ref bW, .ref bK, .ref bM, .ref bG, .long hs]))] 0 rfl (lb rfl) rfl rfl rfl dX10_askBy_141 ?_
          exact hret () _ _ _ trivial (eq3 (fun (z0 : Nat) (z1 : Nat) (z2 : Nat) => ([(o, .inr (10, [.ref aP, .int (nI pn), .int (nI en), .int (nI ne), .int (nI ns), .int (nI nb), .int (nI na), .int (nI s.1), .int (nI s.2.1), .int (nI s.2.2), .int (nI tm), .int (nI sr), .ref aH, .ref aW, .ref aD, .ref aK, .ref aM, .int (nI z0), .int (nI z1), .int (nI z2), .int (nI fd), .int (nI sn), .ref aG, .int (nI sd), .int (nI kS), .int (nI ks.1), .int (nI ks.2.1), .int (nI ks.2.2), .int (nI ktm), .int (nI ksn), .ref bH, .ref bW, .ref bK, .ref bM, .ref bG, .long hs]))] : va_W)) (show (st.1 + (0 * 2)) = ((hear kk mm st).1) from by simp only [hear, rise, offn, thk]; repeat' (first | omega | split)) (show 9 = ((hear kk mm st).2.1) from by simp only [hear, rise, offn, thk]; repeat' (first | omega | split)) (show st.2.2 = ((hear kk mm st).2.2) from by simp only [hear, rise, offn, thk]; repeat' (first | omega | split))) rfl dX10_askBy_144
      · skip
        refine j_bipush (pc := 102) hM (v := nI 20) dX10_askBy_102 (by decide) ?_
        refine j_goto (pc := 104) hM 113 dX10_askBy_104 (by decide) ?_
        refine j_put (pc := 113) hM fp_X10_117 [(o, .inr (10, [.ref aP, .int (nI pn), .int (nI en), .int (nI ne), .int (nI ns), .int (nI nb), .int (nI na), .int (nI s.1), .int (nI s.2.1), .int (nI s.2.2), .int (nI tm), .int (nI sr), .ref aH, .ref aW, .ref aD, .ref aK, .ref aM, .int (nI 20), .int (nI st.2.1), .int (nI st.2.2), .int (nI fd), .int (nI sn), .ref aG, .int (nI sd), .int (nI kS), .int (nI ks.1), .int (nI ks.2.1), .int (nI ks.2.2), .int (nI ktm), .int (nI ksn), .ref bH, .ref bW, .ref bK, .ref bM, .ref bG, .long hs]))] 0 rfl (lb rfl) rfl rfl rfl dX10_askBy_113 ?_
        refine j_aload_n (pc := 116) hM dX10_askBy_116 rfl 2 rfl ?_
        refine j_aload_n (pc := 117) hM dX10_askBy_117 rfl 2 rfl ?_
        refine j_get (pc := 118) hM fd_X10_120 0 rfl rfl dX10_askBy_118 ?_
        refine j_iload (pc := 121) hM dX10_askBy_121 0 rfl ?_
        refine j_iadd (pc := 123) hM (v := nI (st.2.1 + 1)) dX10_askBy_123 (nI_add _ _) ?_
        refine j_bipush (pc := 124) hM (v := nI 9) dX10_askBy_124 (by decide) ?_
        refine j_icmp_le (pc := 126) hM 134 dX10_askBy_126 (by decide) (cLE (by omega) (by omega)) (fun c126 => ?_) (fun c126 => ?_)
        · skip
          refine j_aload_n (pc := 134) hM dX10_askBy_134 rfl 2 rfl ?_
          refine j_get (pc := 135) hM fd_X10_120 0 rfl rfl dX10_askBy_135 ?_
          refine j_iload (pc := 138) hM dX10_askBy_138 0 rfl ?_
          refine j_iadd (pc := 140) hM (v := nI (st.2.1 + 1)) dX10_askBy_140 (nI_add _ _) ?_
          refine j_put (pc := 141) hM fp_X10_120 [(o, .inr (10, [.ref aP, .int (nI pn), .int (nI en), .int (nI ne), .int (nI ns), .int (nI nb), .int (nI na), .int (nI s.1), .int (nI s.2.1), .int (nI s.2.2), .int (nI tm), .int (nI sr), .ref aH, .ref aW, .ref aD, .ref aK, .ref aM, .int (nI 20), .int (nI (st.2.1 + 1)), .int (nI st.2.2), .int (nI fd), .int (nI sn), .ref aG, .int (nI sd), .int (nI kS), .int (nI ks.1), .int (nI ks.2.1), .int (nI ks.2.2), .int (nI ktm), .int (nI ksn), .ref bH, .ref bW, .ref bK, .ref bM, .ref bG, .long hs]))] 0 rfl (lb rfl) rfl rfl rfl dX10_askBy_141 ?_
          exact hret () _ _ _ trivial (eq3 (fun (z0 : Nat) (z1 : Nat) (z2 : Nat) => ([(o, .inr (10, [.ref aP, .int (nI pn), .int (nI en), .int (nI ne), .int (nI ns), .int (nI nb), .int (nI na), .int (nI s.1), .int (nI s.2.1), .int (nI s.2.2), .int (nI tm), .int (nI sr), .ref aH, .ref aW, .ref aD, .ref aK, .ref aM, .int (nI z0), .int (nI z1), .int (nI z2), .int (nI fd), .int (nI sn), .ref aG, .int (nI sd), .int (nI kS), .int (nI ks.1), .int (nI ks.2.1), .int (nI ks.2.2), .int (nI ktm), .int (nI ksn), .ref bH, .ref bW, .ref bK, .ref bM, .ref bG, .long hs]))] : va_W)) (show 20 = ((hear kk mm st).1) from by simp only [hear, rise, offn, thk]; repeat' (first | omega | split)) (show (st.2.1 + 1) = ((hear kk mm st).2.1) from by simp only [hear, rise, offn, thk]; repeat' (first | omega | split)) (show st.2.2 = ((hear kk mm st).2.2) from by simp only [hear, rise, offn, thk]; repeat' (first | omega | split))) rfl dX10_askBy_144
        · skip
          refine j_bipush (pc := 129) hM (v := nI 9) dX10_askBy_129 (by decide) ?_
          refine j_goto (pc := 131) hM 141 dX10_askBy_131 (by decide) ?_
          refine j_put (pc := 141) hM fp_X10_120 [(o, .inr (10, [.ref aP, .int (nI pn), .int (nI en), .int (nI ne), .int (nI ns), .int (nI nb), .int (nI na), .int (nI s.1), .int (nI s.2.1), .int (nI s.2.2), .int (nI tm), .int (nI sr), .ref aH, .ref aW, .ref aD, .ref aK, .ref aM, .int (nI 20), .int (nI 9), .int (nI st.2.2), .int (nI fd), .int (nI sn), .ref aG, .int (nI sd), .int (nI kS), .int (nI ks.1), .int (nI ks.2.1), .int (nI ks.2.2), .int (nI ktm), .int (nI ksn), .ref bH, .ref bW, .ref bK, .ref bM, .ref bG, .long hs]))] 0 rfl (lb rfl) rfl rfl rfl dX10_askBy_141 ?_
          exact hret () _ _ _ trivial (eq3 (fun (z0 : Nat) (z1 : Nat) (z2 : Nat) => ([(o, .inr (10, [.ref aP, .int (nI pn), .int (nI en), .int (nI ne), .int (nI ns), .int (nI nb), .int (nI na), .int (nI s.1), .int (nI s.2.1), .int (nI s.2.2), .int (nI tm), .int (nI sr), .ref aH, .ref aW, .ref aD, .ref aK, .ref aM, .int (nI z0), .int (nI z1), .int (nI z2), .int (nI fd), .int (nI sn), .ref aG, .int (nI sd), .int (nI kS), .int (nI ks.1), .int (nI ks.2.1), .int (nI ks.2.2), .int (nI ktm), .int (nI ksn), .ref bH, .ref bW, .ref bK, .ref bM, .ref bG, .long hs]))] : va_W)) (show 20 = ((hear kk mm st).1) from by simp only [hear, rise, offn, thk]; repeat' (first | omega | split)) (show 9 = ((hear kk mm st).2.1) from by simp only [hear, rise, offn, thk]; repeat' (first | omega | split)) (show st.2.2 = ((hear kk mm st).2.2) from by simp only [hear, rise, offn, thk]; repeat' (first | omega | split))) rfl dX10_askBy_144
    · skip
      refine j_tsN (pc := 23) hM 3 80 dX10_askBy_23 s23 (by decide) (by decide) (by decide) rfl (by decide) ?_
      refine j_iconst (pc := 80) hM (v := nI 0) dX10_askBy_80 (by decide) ?_
      refine j_istore_n (pc := 81) hM [(3, .int (nI 0)), (4, .int (nI 0)), (0, .ref o), (1, .int (nI kk)), (2, .int (nI mm))] dX10_askBy_81 rfl (by decide) rfl ?_
      refine j_aload_n (pc := 82) hM dX10_askBy_82 rfl 2 rfl ?_
      refine j_iconst (pc := 83) hM (v := nI 1) dX10_askBy_83 (by decide) ?_
      refine j_put (pc := 84) hM fp_X10_123 [(o, .inr (10, [.ref aP, .int (nI pn), .int (nI en), .int (nI ne), .int (nI ns), .int (nI nb), .int (nI na), .int (nI s.1), .int (nI s.2.1), .int (nI s.2.2), .int (nI tm), .int (nI sr), .ref aH, .ref aW, .ref aD, .ref aK, .ref aM, .int (nI st.1), .int (nI st.2.1), .int (nI 1), .int (nI fd), .int (nI sn), .ref aG, .int (nI sd), .int (nI kS), .int (nI ks.1), .int (nI ks.2.1), .int (nI ks.2.2), .int (nI ktm), .int (nI ksn), .ref bH, .ref bW, .ref bK, .ref bM, .ref bG, .long hs]))] 0 rfl (lb rfl) rfl rfl rfl dX10_askBy_84 ?_
      refine j_goto (pc := 87) hM 90 dX10_askBy_87 (by decide) ?_
      refine j_aload_n (pc := 90) hM dX10_askBy_90 rfl 2 rfl ?_
      refine j_aload_n (pc := 91) hM dX10_askBy_91 rfl 2 rfl ?_
      refine j_get (pc := 92) hM fd_X10_117 0 rfl rfl dX10_askBy_92 ?_
      refine j_iload_n (pc := 95) hM dX10_askBy_95 rfl 0 rfl ?_
      refine j_iadd (pc := 96) hM (v := nI (st.1 + 0)) dX10_askBy_96 (nI_add _ _) ?_
      refine j_bipush (pc := 97) hM (v := nI 20) dX10_askBy_97 (by decide) ?_
      refine j_icmp_le (pc := 99) hM 107 dX10_askBy_99 (by decide) (cLE (by omega) (by omega)) (fun c99 => ?_) (fun c99 => ?_)
      · skip
        refine j_aload_n (pc := 107) hM dX10_askBy_107 rfl 2 rfl ?_
        refine j_get (pc := 108) hM fd_X10_117 0 rfl rfl dX10_askBy_108 ?_
        refine j_iload_n (pc := 111) hM dX10_askBy_111 rfl 0 rfl ?_
        refine j_iadd (pc := 112) hM (v := nI (st.1 + 0)) dX10_askBy_112 (nI_add _ _) ?_
        refine j_put (pc := 113) hM fp_X10_117 [(o, .inr (10, [.ref aP, .int (nI pn), .int (nI en), .int (nI ne), .int (nI ns), .int (nI nb), .int (nI na), .int (nI s.1), .int (nI s.2.1), .int (nI s.2.2), .int (nI tm), .int (nI sr), .ref aH, .ref aW, .ref aD, .ref aK, .ref aM, .int (nI (st.1 + 0)), .int (nI st.2.1), .int (nI 1), .int (nI fd), .int (nI sn), .ref aG, .int (nI sd), .int (nI kS), .int (nI ks.1), .int (nI ks.2.1), .int (nI ks.2.2), .int (nI ktm), .int (nI ksn), .ref bH, .ref bW, .ref bK, .ref bM, .ref bG, .long hs]))] 0 rfl (lb rfl) rfl rfl rfl dX10_askBy_113 ?_
        refine j_aload_n (pc := 116) hM dX10_askBy_116 rfl 2 rfl ?_
        refine j_aload_n (pc := 117) hM dX10_askBy_117 rfl 2 rfl ?_
        refine j_get (pc := 118) hM fd_X10_120 0 rfl rfl dX10_askBy_118 ?_
        refine j_iload (pc := 121) hM dX10_askBy_121 1 rfl ?_
        refine j_iadd (pc := 123) hM (v := nI (st.2.1 + 0)) dX10_askBy_123 (nI_add _ _) ?_
        refine j_bipush (pc := 124) hM (v := nI 9) dX10_askBy_124 (by decide) ?_
        refine j_icmp_le (pc := 126) hM 134 dX10_askBy_126 (by decide) (cLE (by omega) (by omega)) (fun c126 => ?_) (fun c126 => ?_)
        · skip
          refine j_aload_n (pc := 134) hM dX10_askBy_134 rfl 2 rfl ?_
          refine j_get (pc := 135) hM fd_X10_120 0 rfl rfl dX10_askBy_135 ?_
          refine j_iload (pc := 138) hM dX10_askBy_138 1 rfl ?_
          refine j_iadd (pc := 140) hM (v := nI (st.2.1 + 0)) dX10_askBy_140 (nI_add _ _) ?_
          refine j_put (pc := 141) hM fp_X10_120 [(o, .inr (10, [.ref aP, .int (nI pn), .int (nI en), .int (nI ne), .int (nI ns), .int (nI nb), .int (nI na), .int (nI s.1), .int (nI s.2.1), .int (nI s.2.2), .int (nI tm), .int (nI sr), .ref aH, .ref aW, .ref aD, .ref aK, .ref aM, .int (nI (st.1 + 0)), .int (nI (st.2.1 + 0)), .int (nI 1), .int (nI fd), .int (nI sn), .ref aG, .int (nI sd), .int (nI kS), .int (nI ks.1), .int (nI ks.2.1), .int (nI ks.2.2), .int (nI ktm), .int (nI ksn), .ref bH, .ref bW, .ref bK, .ref bM, .ref bG, .long hs]))] 0 rfl (lb rfl) rfl rfl rfl dX10_askBy_141 ?_
          exact hret () _ _ _ trivial (eq3 (fun (z0 : Nat) (z1 : Nat) (z2 : Nat) => ([(o, .inr (10, [.ref aP, .int (nI pn), .int (nI en), .int (nI ne), .int (nI ns), .int (nI nb), .int (nI na), .int (nI s.1), .int (nI s.2.1), .int (nI s.2.2), .int (nI tm), .int (nI sr), .ref aH, .ref aW, .ref aD, .ref aK, .ref aM, .int (nI z0), .int (nI z1), .int (nI z2), .int (nI fd), .int (nI sn), .ref aG, .int (nI sd), .int (nI kS), .int (nI ks.1), .int (nI ks.2.1), .int (nI ks.2.2), .int (nI ktm), .int (nI ksn), .ref bH, .ref bW, .ref bK, .ref bM, .ref bG, .long hs]))] : va_W)) (show (st.1 + 0) = ((hear kk mm st).1) from by simp only [hear, rise, offn, thk]; repeat' (first | omega | split)) (show (st.2.1 + 0) = ((hear kk mm st).2.1) from by simp only [hear, rise, offn, thk]; repeat' (first | omega | split)) (show 1 = ((hear kk mm st).2.2) from by simp only [hear, rise, offn, thk]; repeat' (first | omega | split))) rfl dX10_askBy_144
        · skip
          refine j_bipush (pc := 129) hM (v := nI 9) dX10_askBy_129 (by decide) ?_
          refine j_goto (pc := 131) hM 141 dX10_askBy_131 (by decide) ?_
          refine j_put (pc := 141) hM fp_X10_120 [(o, .inr (10, [.ref aP, .int (nI pn), .int (nI en), .int (nI ne), .int (nI ns), .int (nI nb), .int (nI na), .int (nI s.1), .int (nI s.2.1), .int (nI s.2.2), .int (nI tm), .int (nI sr), .ref aH, .ref aW, .ref aD, .ref aK, .ref aM, .int (nI (st.1 + 0)), .int (nI 9), .int (nI 1), .int (nI fd), .int (nI sn), .ref aG, .int (nI sd), .int (nI kS), .int (nI ks.1), .int (nI ks.2.1), .int (nI ks.2.2), .int (nI ktm), .int (nI ksn), .ref bH, .ref bW, .ref bK, .ref bM, .ref bG, .long hs]))] 0 rfl (lb rfl) rfl rfl rfl dX10_askBy_141 ?_
          exact hret () _ _ _ trivial (eq3 (fun (z0 : Nat) (z1 : Nat) (z2 : Nat) => ([(o, .inr (10, [.ref aP, .int (nI pn), .int (nI en), .int (nI ne), .int (nI ns), .int (nI nb), .int (nI na), .int (nI s.1), .int (nI s.2.1), .int (nI s.2.2), .int (nI tm), .int (nI sr), .ref aH, .ref aW, .ref aD, .ref aK, .ref aM, .int (nI z0), .int (nI z1), .int (nI z2), .int (nI fd), .int (nI sn), .ref aG, .int (nI sd), .int (nI kS), .int (nI ks.1), .int (nI ks.2.1), .int (nI ks.2.2), .int (nI ktm), .int (nI ksn), .ref bH, .ref bW, .ref bK, .ref bM, .ref bG, .long hs]))] : va_W)) (show (st.1 + 0) = ((hear kk mm st).1) from by simp only [hear, rise, offn, thk]; repeat' (first | omega | split)) (show 9 = ((hear kk mm st).2.1) from by simp only [hear, rise, offn, thk]; repeat' (first | omega | split)) (show 1 = ((hear kk mm st).2.2) from by simp only [hear, rise, offn, thk]; repeat' (first | omega | split))) rfl dX10_askBy_144
      · skip
        refine j_bipush (pc := 102) hM (v := nI 20) dX10_askBy_102 (by decide) ?_
        refine j_goto (pc := 104) hM 113 dX10_askBy_104 (by decide) ?_
        refine j_put (pc := 113) hM fp_X10_117 [(o, .inr (10, [.ref aP, .int (nI pn), .int (nI en), .int (nI ne), .int (nI ns), .int (nI nb), .int (nI na), .int (nI s.1), .int (nI s.2.1), .int (nI s.2.2), .int (nI tm), .int (nI sr), .ref aH, .ref aW, .ref aD, .ref aK, .ref aM, .int (nI 20), .int (nI st.2.1), .int (nI 1), .int (nI fd), .int (nI sn), .ref aG, .int (nI sd), .int (nI kS), .int (nI ks.1), .int (nI ks.2.1), .int (nI ks.2.2), .int (nI ktm), .int (nI ksn), .ref bH, .ref bW, .ref bK, .ref bM, .ref bG, .long hs]))] 0 rfl (lb rfl) rfl rfl rfl dX10_askBy_113 ?_
        refine j_aload_n (pc := 116) hM dX10_askBy_116 rfl 2 rfl ?_
        refine j_aload_n (pc := 117) hM dX10_askBy_117 rfl 2 rfl ?_
        refine j_get (pc := 118) hM fd_X10_120 0 rfl rfl dX10_askBy_118 ?_
        refine j_iload (pc := 121) hM dX10_askBy_121 1 rfl ?_
        refine j_iadd (pc := 123) hM (v := nI (st.2.1 + 0)) dX10_askBy_123 (nI_add _ _) ?_
        refine j_bipush (pc := 124) hM (v := nI 9) dX10_askBy_124 (by decide) ?_
        refine j_icmp_le (pc := 126) hM 134 dX10_askBy_126 (by decide) (cLE (by omega) (by omega)) (fun c126 => ?_) (fun c126 => ?_)
        · skip
          refine j_aload_n (pc := 134) hM dX10_askBy_134 rfl 2 rfl ?_
          refine j_get (pc := 135) hM fd_X10_120 0 rfl rfl dX10_askBy_135 ?_
          refine j_iload (pc := 138) hM dX10_askBy_138 1 rfl ?_
          refine j_iadd (pc := 140) hM (v := nI (st.2.1 + 0)) dX10_askBy_140 (nI_add _ _) ?_
          refine j_put (pc := 141) hM fp_X10_120 [(o, .inr (10, [.ref aP, .int (nI pn), .int (nI en), .int (nI ne), .int (nI ns), .int (nI nb), .int (nI na), .int (nI s.1), .int (nI s.2.1), .int (nI s.2.2), .int (nI tm), .int (nI sr), .ref aH, .ref aW, .ref aD, .ref aK, .ref aM, .int (nI 20), .int (nI (st.2.1 + 0)), .int (nI 1), .int (nI fd), .int (nI sn), .ref aG, .int (nI sd), .int (nI kS), .int (nI ks.1), .int (nI ks.2.1), .int (nI ks.2.2), .int (nI ktm), .int (nI ksn), .ref bH, .ref bW, .ref bK, .ref bM, .ref bG, .long hs]))] 0 rfl (lb rfl) rfl rfl rfl dX10_askBy_141 ?_
          exact hret () _ _ _ trivial (eq3 (fun (z0 : Nat) (z1 : Nat) (z2 : Nat) => ([(o, .inr (10, [.ref aP, .int (nI pn), .int (nI en), .int (nI ne), .int (nI ns), .int (nI nb), .int (nI na), .int (nI s.1), .int (nI s.2.1), .int (nI s.2.2), .int (nI tm), .int (nI sr), .ref aH, .ref aW, .ref aD, .ref aK, .ref aM, .int (nI z0), .int (nI z1), .int (nI z2), .int (nI fd), .int (nI sn), .ref aG, .int (nI sd), .int (nI kS), .int (nI ks.1), .int (nI ks.2.1), .int (nI ks.2.2), .int (nI ktm), .int (nI ksn), .ref bH, .ref bW, .ref bK, .ref bM, .ref bG, .long hs]))] : va_W)) (show 20 = ((hear kk mm st).1) from by simp only [hear, rise, offn, thk]; repeat' (first | omega | split)) (show (st.2.1 + 0) = ((hear kk mm st).2.1) from by simp only [hear, rise, offn, thk]; repeat' (first | omega | split)) (show 1 = ((hear kk mm st).2.2) from by simp only [hear, rise, offn, thk]; repeat' (first | omega | split))) rfl dX10_askBy_144
        · skip
          refine j_bipush (pc := 129) hM (v := nI 9) dX10_askBy_129 (by decide) ?_
          refine j_goto (pc := 131) hM 141 dX10_askBy_131 (by decide) ?_
          refine j_put (pc := 141) hM fp_X10_120 [(o, .inr (10, [.ref aP, .int (nI pn), .int (nI en), .int (nI ne), .int (nI ns), .int (nI nb), .int (nI na), .int (nI s.1), .int (nI s.2.1), .int (nI s.2.2), .int (nI tm), .int (nI sr), .ref aH, .ref aW, .ref aD, .ref aK, .ref aM, .int (nI 20), .int (nI 9), .int (nI 1), .int (nI fd), .int (nI sn), .ref aG, .int (nI sd), .int (nI kS), .int (nI ks.1), .int (nI ks.2.1), .int (nI ks.2.2), .int (nI ktm), .int (nI ksn), .ref bH, .ref bW, .ref bK, .ref bM, .ref bG, .long hs]))] 0 rfl (lb rfl) rfl rfl rfl dX10_askBy_141 ?_
          exact hret () _ _ _ trivial (eq3 (fun (z0 : Nat) (z1 : Nat) (z2 : Nat) => ([(o, .inr (10, [.ref aP, .int (nI pn), .int (nI en), .int (nI ne), .int (nI ns), .int (nI nb), .int (nI na), .int (nI s.1), .int (nI s.2.1), .int (nI s.2.2), .int (nI tm), .int (nI sr), .ref aH, .ref aW, .ref aD, .ref aK, .ref aM, .int (nI z0), .int (nI z1), .int (nI z2), .int (nI fd), .int (nI sn), .ref aG, .int (nI sd), .int (nI kS), .int (nI ks.1), .int (nI ks.2.1), .int (nI ks.2.2), .int (nI ktm), .int (nI ksn), .ref bH, .ref bW, .ref bK, .ref bM, .ref bG, .long hs]))] : va_W)) (show 20 = ((hear kk mm st).1) from by simp only [hear, rise, offn, thk]; repeat' (first | omega | split)) (show 9 = ((hear kk mm st).2.1) from by simp only [hear, rise, offn, thk]; repeat' (first | omega | split)) (show 1 = ((hear kk mm st).2.2) from by simp only [hear, rise, offn, thk]; repeat' (first | omega | split))) rfl dX10_askBy_144
    · skip
      refine j_tsN (pc := 23) hM 4 62 dX10_askBy_23 s23 (by decide) (by decide) (by decide) rfl (by decide) ?_
      refine j_iconst (pc := 62) hM (v := nI 0) dX10_askBy_62 (by decide) ?_
      refine j_istore_n (pc := 63) hM [(3, .int (nI 0)), (4, .int (nI 0)), (0, .ref o), (1, .int (nI kk)), (2, .int (nI mm))] dX10_askBy_63 rfl (by decide) rfl ?_
      refine j_iconst (pc := 64) hM (v := nI 2) dX10_askBy_64 (by decide) ?_
      refine j_istore (pc := 65) hM [(4, .int (nI 2)), (3, .int (nI 0)), (0, .ref o), (1, .int (nI kk)), (2, .int (nI mm))] dX10_askBy_65 (by decide) rfl ?_
      refine j_goto (pc := 67) hM 90 dX10_askBy_67 (by decide) ?_
      refine j_aload_n (pc := 90) hM dX10_askBy_90 rfl 2 rfl ?_
      refine j_aload_n (pc := 91) hM dX10_askBy_91 rfl 2 rfl ?_
      refine j_get (pc := 92) hM fd_X10_117 0 rfl rfl dX10_askBy_92 ?_
      refine j_iload_n (pc := 95) hM dX10_askBy_95 rfl 1 rfl ?_
      refine j_iadd (pc := 96) hM (v := nI (st.1 + 0)) dX10_askBy_96 (nI_add _ _) ?_
      refine j_bipush (pc := 97) hM (v := nI 20) dX10_askBy_97 (by decide) ?_
      refine j_icmp_le (pc := 99) hM 107 dX10_askBy_99 (by decide) (cLE (by omega) (by omega)) (fun c99 => ?_) (fun c99 => ?_)
      · skip
        refine j_aload_n (pc := 107) hM dX10_askBy_107 rfl 2 rfl ?_
        refine j_get (pc := 108) hM fd_X10_117 0 rfl rfl dX10_askBy_108 ?_
        refine j_iload_n (pc := 111) hM dX10_askBy_111 rfl 1 rfl ?_
        refine j_iadd (pc := 112) hM (v := nI (st.1 + 0)) dX10_askBy_112 (nI_add _ _) ?_
        refine j_put (pc := 113) hM fp_X10_117 [(o, .inr (10, [.ref aP, .int (nI pn), .int (nI en), .int (nI ne), .int (nI ns), .int (nI nb), .int (nI na), .int (nI s.1), .int (nI s.2.1), .int (nI s.2.2), .int (nI tm), .int (nI sr), .ref aH, .ref aW, .ref aD, .ref aK, .ref aM, .int (nI (st.1 + 0)), .int (nI st.2.1), .int (nI st.2.2), .int (nI fd), .int (nI sn), .ref aG, .int (nI sd), .int (nI kS), .int (nI ks.1), .int (nI ks.2.1), .int (nI ks.2.2), .int (nI ktm), .int (nI ksn), .ref bH, .ref bW, .ref bK, .ref bM, .ref bG, .long hs]))] 0 rfl (lb rfl) rfl rfl rfl dX10_askBy_113 ?_
        refine j_aload_n (pc := 116) hM dX10_askBy_116 rfl 2 rfl ?_
        refine j_aload_n (pc := 117) hM dX10_askBy_117 rfl 2 rfl ?_
        refine j_get (pc := 118) hM fd_X10_120 0 rfl rfl dX10_askBy_118 ?_
        refine j_iload (pc := 121) hM dX10_askBy_121 0 rfl ?_
        refine j_iadd (pc := 123) hM (v := nI (st.2.1 + 2)) dX10_askBy_123 (nI_add _ _) ?_
        refine j_bipush (pc := 124) hM (v := nI 9) dX10_askBy_124 (by decide) ?_
        refine j_icmp_le (pc := 126) hM 134 dX10_askBy_126 (by decide) (cLE (by omega) (by omega)) (fun c126 => ?_) (fun c126 => ?_)
        · skip
          refine j_aload_n (pc := 134) hM dX10_askBy_134 rfl 2 rfl ?_
          refine j_get (pc := 135) hM fd_X10_120 0 rfl rfl dX10_askBy_135 ?_
          refine j_iload (pc := 138) hM dX10_askBy_138 0 rfl ?_
          refine j_iadd (pc := 140) hM (v := nI (st.2.1 + 2)) dX10_askBy_140 (nI_add _ _) ?_
          refine j_put (pc := 141) hM fp_X10_120 [(o, .inr (10, [.ref aP, .int (nI pn), .int (nI en), .int (nI ne), .int (nI ns), .int (nI nb), .int (nI na), .int (nI s.1), .int (nI s.2.1), .int (nI s.2.2), .int (nI tm), .int (nI sr), .ref aH, .ref aW, .ref aD, .ref aK, .ref aM, .int (nI (st.1 + 0)), .int (nI (st.2.1 + 2)), .int (nI st.2.2), .int (nI fd), .int (nI sn), .ref aG, .int (nI sd), .int (nI kS), .int (nI ks.1), .int (nI ks.2.1), .int (nI ks.2.2), .int (nI ktm), .int (nI ksn), .ref bH, .ref bW, .ref bK, .ref bM, .ref bG, .long hs]))] 0 rfl (lb rfl) rfl rfl rfl dX10_askBy_141 ?_
          exact hret () _ _ _ trivial (eq3 (fun (z0 : Nat) (z1 : Nat) (z2 : Nat) => ([(o, .inr (10, [.ref aP, .int (nI pn), .int (nI en), .int (nI ne), .int (nI ns), .int (nI nb), .int (nI na), .int (nI s.1), .int (nI s.2.1), .int (nI s.2.2), .int (nI tm), .int (nI sr), .ref aH, .ref aW, .ref aD, .ref aK, .ref aM, .int (nI z0), .int (nI z1), .int (nI z2), .int (nI fd), .int (nI sn), .ref aG, .int (nI sd), .int (nI kS), .int (nI ks.1), .int (nI ks.2.1), .int (nI ks.2.2), .int (nI ktm), .int (nI ksn), .ref bH, .ref bW, .ref bK, .ref bM, .ref bG, .long hs]))] : va_W)) (show (st.1 + 0) = ((hear kk mm st).1) from by simp only [hear, rise, offn, thk]; repeat' (first | omega | split)) (show (st.2.1 + 2) = ((hear kk mm st).2.1) from by simp only [hear, rise, offn, thk]; repeat' (first | omega | split)) (show st.2.2 = ((hear kk mm st).2.2) from by simp only [hear, rise, offn, thk]; repeat' (first | omega | split))) rfl dX10_askBy_144
        · skip
          refine j_bipush (pc := 129) hM (v := nI 9) dX10_askBy_129 (by decide) ?_
          refine j_goto (pc := 131) hM 141 dX10_askBy_131 (by decide) ?_
          refine j_put (pc := 141) hM fp_X10_120 [(o, .inr (10, [.ref aP, .int (nI pn), .int (nI en), .int (nI ne), .int (nI ns), .int (nI nb), .int (nI na), .int (nI s.1), .int (nI s.2.1), .int (nI s.2.2), .int (nI tm), .int (nI sr), .ref aH, .ref aW, .ref aD, .ref aK, .ref aM, .int (nI (st.1 + 0)), .int (nI 9), .int (nI st.2.2), .int (nI fd), .int (nI sn), .ref aG, .int (nI sd), .int (nI kS), .int (nI ks.1), .int (nI ks.2.1), .int (nI ks.2.2), .int (nI ktm), .int (nI ksn), .ref bH, .ref bW, .ref bK, .ref bM, .ref bG, .long hs]))] 0 rfl (lb rfl) rfl rfl rfl dX10_askBy_141 ?_
          exact hret () _ _ _ trivial (eq3 (fun (z0 : Nat) (z1 : Nat) (z2 : Nat) => ([(o, .inr (10, [.ref aP, .int (nI pn), .int (nI en), .int (nI ne), .int (nI ns), .int (nI nb), .int (nI na), .int (nI s.1), .int (nI s.2.1), .int (nI s.2.2), .int (nI tm), .int (nI sr), .ref aH, .ref aW, .ref aD, .ref aK, .ref aM, .int (nI z0), .int (nI z1), .int (nI z2), .int (nI fd), .int (nI sn), .ref aG, .int (nI sd), .int (nI kS), .int (nI ks.1), .int (nI ks.2.1), .int (nI ks.2.2), .int (nI ktm), .int (nI ksn), .ref bH, .ref bW, .ref bK, .ref bM, .ref bG, .long hs]))] : va_W)) (show (st.1 + 0) = ((hear kk mm st).1) from by simp only [hear, rise, offn, thk]; repeat' (first | omega | split)) (show 9 = ((hear kk mm st).2.1) from by simp only [hear, rise, offn, thk]; repeat' (first | omega | split)) (show st.2.2 = ((hear kk mm st).2.2) from by simp only [hear, rise, offn, thk]; repeat' (first | omega | split))) rfl dX10_askBy_144
      · skip
        refine j_bipush (pc := 102) hM (v := nI 20) dX10_askBy_102 (by decide) ?_
        refine j_goto (pc := 104) hM 113 dX10_askBy_104 (by decide) ?_
        refine j_put (pc := 113) hM fp_X10_117 [(o, .inr (10, [.ref aP, .int (nI pn), .int (nI en), .int (nI ne), .int (nI ns), .int (nI nb), .int (nI na), .int (nI s.1), .int (nI s.2.1), .int (nI s.2.2), .int (nI tm), .int (nI sr), .ref aH, .ref aW, .ref aD, .ref aK, .ref aM, .int (nI 20), .int (nI st.2.1), .int (nI st.2.2), .int (nI fd), .int (nI sn), .ref aG, .int (nI sd), .int (nI kS), .int (nI ks.1), .int (nI ks.2.1), .int (nI ks.2.2), .int (nI ktm), .int (nI ksn), .ref bH, .ref bW, .ref bK, .ref bM, .ref bG, .long hs]))] 0 rfl (lb rfl) rfl rfl rfl dX10_askBy_113 ?_
        refine j_aload_n (pc := 116) hM dX10_askBy_116 rfl 2 rfl ?_
        refine j_aload_n (pc := 117) hM dX10_askBy_117 rfl 2 rfl ?_
        refine j_get (pc := 118) hM fd_X10_120 0 rfl rfl dX10_askBy_118 ?_
        refine j_iload (pc := 121) hM dX10_askBy_121 0 rfl ?_
        refine j_iadd (pc := 123) hM (v := nI (st.2.1 + 2)) dX10_askBy_123 (nI_add _ _) ?_
        refine j_bipush (pc := 124) hM (v := nI 9) dX10_askBy_124 (by decide) ?_
        refine j_icmp_le (pc := 126) hM 134 dX10_askBy_126 (by decide) (cLE (by omega) (by omega)) (fun c126 => ?_) (fun c126 => ?_)
        · skip
          refine j_aload_n (pc := 134) hM dX10_askBy_134 rfl 2 rfl ?_
          refine j_get (pc := 135) hM fd_X10_120 0 rfl rfl dX10_askBy_135 ?_
          refine j_iload (pc := 138) hM dX10_askBy_138 0 rfl ?_
          refine j_iadd (pc := 140) hM (v := nI (st.2.1 + 2)) dX10_askBy_140 (nI_add _ _) ?_
          refine j_put (pc := 141) hM fp_X10_120 [(o, .inr (10, [.ref aP, .int (nI pn), .int (nI en), .int (nI ne), .int (nI ns), .int (nI nb), .int (nI na), .int (nI s.1), .int (nI s.2.1), .int (nI s.2.2), .int (nI tm), .int (nI sr), .ref aH, .ref aW, .ref aD, .ref aK, .ref aM, .int (nI 20), .int (nI (st.2.1 + 2)), .int (nI st.2.2), .int (nI fd), .int (nI sn), .ref aG, .int (nI sd), .int (nI kS), .int (nI ks.1), .int (nI ks.2.1), .int (nI ks.2.2), .int (nI ktm), .int (nI ksn), .ref bH, .ref bW, .ref bK, .ref bM, .ref bG, .long hs]))] 0 rfl (lb rfl) rfl rfl rfl dX10_askBy_141 ?_
          exact hret () _ _ _ trivial (eq3 (fun (z0 : Nat) (z1 : Nat) (z2 : Nat) => ([(o, .inr (10, [.ref aP, .int (nI pn), .int (nI en), .int (nI ne), .int (nI ns), .int (nI nb), .int (nI na), .int (nI s.1), .int (nI s.2.1), .int (nI s.2.2), .int (nI tm), .int (nI sr), .ref aH, .ref aW, .ref aD, .ref aK, .ref aM, .int (nI z0), .int (nI z1), .int (nI z2), .int (nI fd), .int (nI sn), .ref aG, .int (nI sd), .int (nI kS), .int (nI ks.1), .int (nI ks.2.1), .int (nI ks.2.2), .int (nI ktm), .int (nI ksn), .ref bH, .ref bW, .ref bK, .ref bM, .ref bG, .long hs]))] : va_W)) (show 20 = ((hear kk mm st).1) from by simp only [hear, rise, offn, thk]; repeat' (first | omega | split)) (show (st.2.1 + 2) = ((hear kk mm st).2.1) from by simp only [hear, rise, offn, thk]; repeat' (first | omega | split)) (show st.2.2 = ((hear kk mm st).2.2) from by simp only [hear, rise, offn, thk]; repeat' (first | omega | split))) rfl dX10_askBy_144
        · skip
          refine j_bipush (pc := 129) hM (v := nI 9) dX10_askBy_129 (by decide) ?_
          refine j_goto (pc := 131) hM 141 dX10_askBy_131 (by decide) ?_
          refine j_put (pc := 141) hM fp_X10_120 [(o, .inr (10, [.ref aP, .int (nI pn), .int (nI en), .int (nI ne), .int (nI ns), .int (nI nb), .int (nI na), .int (nI s.1), .int (nI s.2.1), .int (nI s.2.2), .int (nI tm), .int (nI sr), .ref aH, .ref aW, .ref aD, .ref aK, .ref aM, .int (nI 20), .int (nI 9), .int (nI st.2.2), .int (nI fd), .int (nI sn), .ref aG, .int (nI sd), .int (nI kS), .int (nI ks.1), .int (nI ks.2.1), .int (nI ks.2.2), .int (nI ktm), .int (nI ksn), .ref bH, .ref bW, .ref bK, .ref bM, .ref bG, .long hs]))] 0 rfl (lb rfl) rfl rfl rfl dX10_askBy_141 ?_
          exact hret () _ _ _ trivial (eq3 (fun (z0 : Nat) (z1 : Nat) (z2 : Nat) => ([(o, .inr (10, [.ref aP, .int (nI pn), .int (nI en), .int (nI ne), .int (nI ns), .int (nI nb), .int (nI na), .int (nI s.1), .int (nI s.2.1), .int (nI s.2.2), .int (nI tm), .int (nI sr), .ref aH, .ref aW, .ref aD, .ref aK, .ref aM, .int (nI z0), .int (nI z1), .int (nI z2), .int (nI fd), .int (nI sn), .ref aG, .int (nI sd), .int (nI kS), .int (nI ks.1), .int (nI ks.2.1), .int (nI ks.2.2), .int (nI ktm), .int (nI ksn), .ref bH, .ref bW, .ref bK, .ref bM, .ref bG, .long hs]))] : va_W)) (show 20 = ((hear kk mm st).1) from by simp only [hear, rise, offn, thk]; repeat' (first | omega | split)) (show 9 = ((hear kk mm st).2.1) from by simp only [hear, rise, offn, thk]; repeat' (first | omega | split)) (show st.2.2 = ((hear kk mm st).2.2) from by simp only [hear, rise, offn, thk]; repeat' (first | omega | split))) rfl dX10_askBy_144
    · skip
      refine j_tsM (pc := 23) hM 90 dX10_askBy_23 (by omega) (by omega) (by decide) ?_
      refine j_aload_n (pc := 90) hM dX10_askBy_90 rfl 2 rfl ?_
      refine j_aload_n (pc := 91) hM dX10_askBy_91 rfl 2 rfl ?_
      refine j_get (pc := 92) hM fd_X10_117 0 rfl rfl dX10_askBy_92 ?_
      refine j_iload_n (pc := 95) hM dX10_askBy_95 rfl 1 rfl ?_
      refine j_iadd (pc := 96) hM (v := nI (st.1 + 0)) dX10_askBy_96 (nI_add _ _) ?_
      refine j_bipush (pc := 97) hM (v := nI 20) dX10_askBy_97 (by decide) ?_
      refine j_icmp_le (pc := 99) hM 107 dX10_askBy_99 (by decide) (cLE (by omega) (by omega)) (fun c99 => ?_) (fun c99 => ?_)
      · skip
        refine j_aload_n (pc := 107) hM dX10_askBy_107 rfl 2 rfl ?_
        refine j_get (pc := 108) hM fd_X10_117 0 rfl rfl dX10_askBy_108 ?_
        refine j_iload_n (pc := 111) hM dX10_askBy_111 rfl 1 rfl ?_
        refine j_iadd (pc := 112) hM (v := nI (st.1 + 0)) dX10_askBy_112 (nI_add _ _) ?_
        refine j_put (pc := 113) hM fp_X10_117 [(o, .inr (10, [.ref aP, .int (nI pn), .int (nI en), .int (nI ne), .int (nI ns), .int (nI nb), .int (nI na), .int (nI s.1), .int (nI s.2.1), .int (nI s.2.2), .int (nI tm), .int (nI sr), .ref aH, .ref aW, .ref aD, .ref aK, .ref aM, .int (nI (st.1 + 0)), .int (nI st.2.1), .int (nI st.2.2), .int (nI fd), .int (nI sn), .ref aG, .int (nI sd), .int (nI kS), .int (nI ks.1), .int (nI ks.2.1), .int (nI ks.2.2), .int (nI ktm), .int (nI ksn), .ref bH, .ref bW, .ref bK, .ref bM, .ref bG, .long hs]))] 0 rfl (lb rfl) rfl rfl rfl dX10_askBy_113 ?_
        refine j_aload_n (pc := 116) hM dX10_askBy_116 rfl 2 rfl ?_
        refine j_aload_n (pc := 117) hM dX10_askBy_117 rfl 2 rfl ?_
        refine j_get (pc := 118) hM fd_X10_120 0 rfl rfl dX10_askBy_118 ?_
        refine j_iload (pc := 121) hM dX10_askBy_121 0 rfl ?_
        refine j_iadd (pc := 123) hM (v := nI (st.2.1 + 0)) dX10_askBy_123 (nI_add _ _) ?_
        refine j_bipush (pc := 124) hM (v := nI 9) dX10_askBy_124 (by decide) ?_
        refine j_icmp_le (pc := 126) hM 134 dX10_askBy_126 (by decide) (cLE (by omega) (by omega)) (fun c126 => ?_) (fun c126 => ?_)
        · skip
          refine j_aload_n (pc := 134) hM dX10_askBy_134 rfl 2 rfl ?_
          refine j_get (pc := 135) hM fd_X10_120 0 rfl rfl dX10_askBy_135 ?_
          refine j_iload (pc := 138) hM dX10_askBy_138 0 rfl ?_
          refine j_iadd (pc := 140) hM (v := nI (st.2.1 + 0)) dX10_askBy_140 (nI_add _ _) ?_
          refine j_put (pc := 141) hM fp_X10_120 [(o, .inr (10, [.ref aP, .int (nI pn), .int (nI en), .int (nI ne), .int (nI ns), .int (nI nb), .int (nI na), .int (nI s.1), .int (nI s.2.1), .int (nI s.2.2), .int (nI tm), .int (nI sr), .ref aH, .ref aW, .ref aD, .ref aK, .ref aM, .int (nI (st.1 + 0)), .int (nI (st.2.1 + 0)), .int (nI st.2.2), .int (nI fd), .int (nI sn), .ref aG, .int (nI sd), .int (nI kS), .int (nI ks.1), .int (nI ks.2.1), .int (nI ks.2.2), .int (nI ktm), .int (nI ksn), .ref bH, .ref bW, .ref bK, .ref bM, .ref bG, .long hs]))] 0 rfl (lb rfl) rfl rfl rfl dX10_askBy_141 ?_
          exact hret () _ _ _ trivial (eq3 (fun (z0 : Nat) (z1 : Nat) (z2 : Nat) => ([(o, .inr (10, [.ref aP, .int (nI pn), .int (nI en), .int (nI ne), .int (nI ns), .int (nI nb), .int (nI na), .int (nI s.1), .int (nI s.2.1), .int (nI s.2.2), .int (nI tm), .int (nI sr), .ref aH, .ref aW, .ref aD, .ref aK, .ref aM, .int (nI z0), .int (nI z1), .int (nI z2), .int (nI fd), .int (nI sn), .ref aG, .int (nI sd), .int (nI kS), .int (nI ks.1), .int (nI ks.2.1), .int (nI ks.2.2), .int (nI ktm), .int (nI ksn), .ref bH, .ref bW, .ref bK, .ref bM, .ref bG, .long hs]))] : va_W)) (show (st.1 + 0) = ((hear kk mm st).1) from by simp only [hear, rise, offn, thk]; repeat' (first | omega | split)) (show (st.2.1 + 0) = ((hear kk mm st).2.1) from by simp only [hear, rise, offn, thk]; repeat' (first | omega | split)) (show st.2.2 = ((hear kk mm st).2.2) from by simp only [hear, rise, offn, thk]; repeat' (first | omega | split))) rfl dX10_askBy_144
        · skip
          refine j_bipush (pc := 129) hM (v := nI 9) dX10_askBy_129 (by decide) ?_
          refine j_goto (pc := 131) hM 141 dX10_askBy_131 (by decide) ?_
          refine j_put (pc := 141) hM fp_X10_120 [(o, .inr (10, [.ref aP, .int (nI pn), .int (nI en), .int (nI ne), .int (nI ns), .int (nI nb), .int (nI na), .int (nI s.1), .int (nI s.2.1), .int (nI s.2.2), .int (nI tm), .int (nI sr), .ref aH, .ref aW, .ref aD, .ref aK, .ref aM, .int (nI (st.1 + 0)), .int (nI 9), .int (nI st.2.2), .int (nI fd), .int (nI sn), .ref aG, .int (nI sd), .int (nI kS), .int (nI ks.1), .int (nI ks.2.1), .int (nI ks.2.2), .int (nI ktm), .int (nI ksn), .ref bH, .ref bW, .ref bK, .ref bM, .ref bG, .long hs]))] 0 rfl (lb rfl) rfl rfl rfl dX10_askBy_141 ?_
          exact hret () _ _ _ trivial (eq3 (fun (z0 : Nat) (z1 : Nat) (z2 : Nat) => ([(o, .inr (10, [.ref aP, .int (nI pn), .int (nI en), .int (nI ne), .int (nI ns), .int (nI nb), .int (nI na), .int (nI s.1), .int (nI s.2.1), .int (nI s.2.2), .int (nI tm), .int (nI sr), .ref aH, .ref aW, .ref aD, .ref aK, .ref aM, .int (nI z0), .int (nI z1), .int (nI z2), .int (nI fd), .int (nI sn), .ref aG, .int (nI sd), .int (nI kS), .int (nI ks.1), .int (nI ks.2.1), .int (nI ks.2.2), .int (nI ktm), .int (nI ksn), .ref bH, .ref bW, .ref bK, .ref bM, .ref bG, .long hs]))] : va_W)) (show (st.1 + 0) = ((hear kk mm st).1) from by simp only [hear, rise, offn, thk]; repeat' (first | omega | split)) (show 9 = ((hear kk mm st).2.1) from by simp only [hear, rise, offn, thk]; repeat' (first | omega | split)) (show st.2.2 = ((hear kk mm st).2.2) from by simp only [hear, rise, offn, thk]; repeat' (first | omega | split))) rfl dX10_askBy_144
      · skip
        refine j_bipush (pc := 102) hM (v := nI 20) dX10_askBy_102 (by decide) ?_
        refine j_goto (pc := 104) hM 113 dX10_askBy_104 (by decide) ?_
        refine j_put (pc := 113) hM fp_X10_117 [(o, .inr (10, [.ref aP, .int (nI pn), .int (nI en), .int (nI ne), .int (nI ns), .int (nI nb), .int (nI na), .int (nI s.1), .int (nI s.2.1), .int (nI s.2.2), .int (nI tm), .int (nI sr), .ref aH, .ref aW, .ref aD, .ref aK, .ref aM, .int (nI 20), .int (nI st.2.1), .int (nI st.2.2), .int (nI fd), .int (nI sn), .ref aG, .int (nI sd), .int (nI kS), .int (nI ks.1), .int (nI ks.2.1), .int (nI ks.2.2), .int (nI ktm), .int (nI ksn), .ref bH, .ref bW, .ref bK, .ref bM, .ref bG, .long hs]))] 0 rfl (lb rfl) rfl rfl rfl dX10_askBy_113 ?_
        refine j_aload_n (pc := 116) hM dX10_askBy_116 rfl 2 rfl ?_
        refine j_aload_n (pc := 117) hM dX10_askBy_117 rfl 2 rfl ?_
        refine j_get (pc := 118) hM fd_X10_120 0 rfl rfl dX10_askBy_118 ?_
        refine j_iload (pc := 121) hM dX10_askBy_121 0 rfl ?_
        refine j_iadd (pc := 123) hM (v := nI (st.2.1 + 0)) dX10_askBy_123 (nI_add _ _) ?_
        refine j_bipush (pc := 124) hM (v := nI 9) dX10_askBy_124 (by decide) ?_
        refine j_icmp_le (pc := 126) hM 134 dX10_askBy_126 (by decide) (cLE (by omega) (by omega)) (fun c126 => ?_) (fun c126 => ?_)
        · skip
          refine j_aload_n (pc := 134) hM dX10_askBy_134 rfl 2 rfl ?_
          refine j_get (pc := 135) hM fd_X10_120 0 rfl rfl dX10_askBy_135 ?_
          refine j_iload (pc := 138) hM dX10_askBy_138 0 rfl ?_
          refine j_iadd (pc := 140) hM (v := nI (st.2.1 + 0)) dX10_askBy_140 (nI_add _ _) ?_
          refine j_put (pc := 141) hM fp_X10_120 [(o, .inr (10, [.ref aP, .int (nI pn), .int (nI en), .int (nI ne), .int (nI ns), .int (nI nb), .int (nI na), .int (nI s.1), .int (nI s.2.1), .int (nI s.2.2), .int (nI tm), .int (nI sr), .ref aH, .ref aW, .ref aD, .ref aK, .ref aM, .int (nI 20), .int (nI (st.2.1 + 0)), .int (nI st.2.2), .int (nI fd), .int (nI sn), .ref aG, .int (nI sd), .int (nI kS), .int (nI ks.1), .int (nI ks.2.1), .int (nI ks.2.2), .int (nI ktm), .int (nI ksn), .ref bH, .ref bW, .ref bK, .ref bM, .ref bG, .long hs]))] 0 rfl (lb rfl) rfl rfl rfl dX10_askBy_141 ?_
          exact hret () _ _ _ trivial (eq3 (fun (z0 : Nat) (z1 : Nat) (z2 : Nat) => ([(o, .inr (10, [.ref aP, .int (nI pn), .int (nI en), .int (nI ne), .int (nI ns), .int (nI nb), .int (nI na), .int (nI s.1), .int (nI s.2.1), .int (nI s.2.2), .int (nI tm), .int (nI sr), .ref aH, .ref aW, .ref aD, .ref aK, .ref aM, .int (nI z0), .int (nI z1), .int (nI z2), .int (nI fd), .int (nI sn), .ref aG, .int (nI sd), .int (nI kS), .int (nI ks.1), .int (nI ks.2.1), .int (nI ks.2.2), .int (nI ktm), .int (nI ksn), .ref bH, .ref bW, .ref bK, .ref bM, .ref bG, .long hs]))] : va_W)) (show 20 = ((hear kk mm st).1) from by simp only [hear, rise, offn, thk]; repeat' (first | omega | split)) (show (st.2.1 + 0) = ((hear kk mm st).2.1) from by simp only [hear, rise, offn, thk]; repeat' (first | omega | split)) (show st.2.2 = ((hear kk mm st).2.2) from by simp only [hear, rise, offn, thk]; repeat' (first | omega | split))) rfl dX10_askBy_144
        · skip
          refine j_bipush (pc := 129) hM (v := nI 9) dX10_askBy_129 (by decide) ?_
          refine j_goto (pc := 131) hM 141 dX10_askBy_131 (by decide) ?_
          refine j_put (pc := 141) hM fp_X10_120 [(o, .inr (10, [.ref aP, .int (nI pn), .int (nI en), .int (nI ne), .int (nI ns), .int (nI nb), .int (nI na), .int (nI s.1), .int (nI s.2.1), .int (nI s.2.2), .int (nI tm), .int (nI sr), .ref aH, .ref aW, .ref aD, .ref aK, .ref aM, .int (nI 20), .int (nI 9), .int (nI st.2.2), .int (nI fd), .int (nI sn), .ref aG, .int (nI sd), .int (nI kS), .int (nI ks.1), .int (nI ks.2.1), .int (nI ks.2.2), .int (nI ktm), .int (nI ksn), .ref bH, .ref bW, .ref bK, .ref bM, .ref bG, .long hs]))] 0 rfl (lb rfl) rfl rfl rfl dX10_askBy_141 ?_
          exact hret () _ _ _ trivial (eq3 (fun (z0 : Nat) (z1 : Nat) (z2 : Nat) => ([(o, .inr (10, [.ref aP, .int (nI pn), .int (nI en), .int (nI ne), .int (nI ns), .int (nI nb), .int (nI na), .int (nI s.1), .int (nI s.2.1), .int (nI s.2.2), .int (nI tm), .int (nI sr), .ref aH, .ref aW, .ref aD, .ref aK, .ref aM, .int (nI z0), .int (nI z1), .int (nI z2), .int (nI fd), .int (nI sn), .ref aG, .int (nI sd), .int (nI kS), .int (nI ks.1), .int (nI ks.2.1), .int (nI ks.2.2), .int (nI ktm), .int (nI ksn), .ref bH, .ref bW, .ref bK, .ref bM, .ref bG, .long hs]))] : va_W)) (show 20 = ((hear kk mm st).1) from by simp only [hear, rise, offn, thk]; repeat' (first | omega | split)) (show 9 = ((hear kk mm st).2.1) from by simp only [hear, rise, offn, thk]; repeat' (first | omega | split)) (show st.2.2 = ((hear kk mm st).2.2) from by simp only [hear, rise, offn, thk]; repeat' (first | omega | split))) rfl dX10_askBy_144
  · skip
    refine j_iload_n (pc := 8) hM dX10_askBy_8 rfl 2 rfl ?_
    refine j_aload_n (pc := 9) hM dX10_askBy_9 rfl 0 rfl ?_
    refine j_get (pc := 10) hM fd_X10_120 0 rfl rfl dX10_askBy_10 ?_
    refine j_isub (pc := 13) hM (v := nI (mm - st.2.1)) dX10_askBy_13 (nsub (by omega)) ?_
    refine j_goto (pc := 14) hM 18 dX10_askBy_14 (by decide) ?_
    refine j_istore_n (pc := 18) hM [(3, .int (nI (mm - st.2.1))), (0, .ref o), (1, .int (nI kk)), (2, .int (nI mm))] dX10_askBy_18 rfl (by decide) rfl ?_
    refine j_iconst (pc := 19) hM (v := nI 0) dX10_askBy_19 (by decide) ?_
    refine j_istore (pc := 20) hM [(4, .int (nI 0)), (3, .int (nI (mm - st.2.1))), (0, .ref o), (1, .int (nI kk)), (2, .int (nI mm))] dX10_askBy_20 (by decide) rfl ?_
    refine j_iload_n (pc := 22) hM dX10_askBy_22 rfl 3 rfl ?_
    rcases (show kk = 1 ∨ kk = 2 ∨ kk = 3 ∨ kk = 4 ∨ (kk < 1 ∨ 4 < kk) by omega) with s23 | s23 | s23 | s23 | s23
    · skip
      refine j_tsN (pc := 23) hM 1 52 dX10_askBy_23 s23 (by decide) (by decide) (by decide) rfl (by decide) ?_
      refine j_iload_n (pc := 52) hM dX10_askBy_52 rfl 1 rfl ?_
      refine j_iconst (pc := 53) hM (v := nI 3) dX10_askBy_53 (by decide) ?_
      refine j_idiv (pc := 54) hM (v := nI ((mm - st.2.1) / 3)) dX10_askBy_54 (nne0 (by omega) (by omega)) (ndiv (by omega) (by omega) (by omega)) ?_
      refine j_istore_n (pc := 55) hM [(3, .int (nI ((mm - st.2.1) / 3))), (4, .int (nI 0)), (0, .ref o), (1, .int (nI kk)), (2, .int (nI mm))] dX10_askBy_55 rfl (by decide) rfl ?_
      refine j_iconst (pc := 56) hM (v := nI 1) dX10_askBy_56 (by decide) ?_
      refine j_istore (pc := 57) hM [(4, .int (nI 1)), (3, .int (nI ((mm - st.2.1) / 3))), (0, .ref o), (1, .int (nI kk)), (2, .int (nI mm))] dX10_askBy_57 (by decide) rfl ?_
      refine j_goto (pc := 59) hM 90 dX10_askBy_59 (by decide) ?_
      refine j_aload_n (pc := 90) hM dX10_askBy_90 rfl 2 rfl ?_
      refine j_aload_n (pc := 91) hM dX10_askBy_91 rfl 2 rfl ?_
      refine j_get (pc := 92) hM fd_X10_117 0 rfl rfl dX10_askBy_92 ?_
      refine j_iload_n (pc := 95) hM dX10_askBy_95 rfl 1 rfl ?_
      refine j_iadd (pc := 96) hM (v := nI (st.1 + ((mm - st.2.1) / 3))) dX10_askBy_96 (nI_add _ _) ?_
      refine j_bipush (pc := 97) hM (v := nI 20) dX10_askBy_97 (by decide) ?_
      refine j_icmp_le (pc := 99) hM 107 dX10_askBy_99 (by decide) (cLE (by omega) (by omega)) (fun c99 => ?_) (fun c99 => ?_)
      · skip
        refine j_aload_n (pc := 107) hM dX10_askBy_107 rfl 2 rfl ?_
        refine j_get (pc := 108) hM fd_X10_117 0 rfl rfl dX10_askBy_108 ?_
        refine j_iload_n (pc := 111) hM dX10_askBy_111 rfl 1 rfl ?_
        refine j_iadd (pc := 112) hM (v := nI (st.1 + ((mm - st.2.1) / 3))) dX10_askBy_112 (nI_add _ _) ?_
        refine j_put (pc := 113) hM fp_X10_117 [(o, .inr (10, [.ref aP, .int (nI pn), .int (nI en), .int (nI ne), .int (nI ns), .int (nI nb), .int (nI na), .int (nI s.1), .int (nI s.2.1), .int (nI s.2.2), .int (nI tm), .int (nI sr), .ref aH, .ref aW, .ref aD, .ref aK, .ref aM, .int (nI (st.1 + ((mm - st.2.1) / 3))), .int (nI st.2.1), .int (nI st.2.2), .int (nI fd), .int (nI sn), .ref aG, .int (nI sd), .int (nI kS), .int (nI ks.1), .int (nI ks.2.1), .int (nI ks.2.2), .int (nI ktm), .int (nI ksn), .ref bH, .ref bW, .ref bK, .ref bM, .ref bG, .long hs]))] 0 rfl (lb rfl) rfl rfl rfl dX10_askBy_113 ?_
        refine j_aload_n (pc := 116) hM dX10_askBy_116 rfl 2 rfl ?_
        refine j_aload_n (pc := 117) hM dX10_askBy_117 rfl 2 rfl ?_
        refine j_get (pc := 118) hM fd_X10_120 0 rfl rfl dX10_askBy_118 ?_
        refine j_iload (pc := 121) hM dX10_askBy_121 0 rfl ?_
        refine j_iadd (pc := 123) hM (v := nI (st.2.1 + 1)) dX10_askBy_123 (nI_add _ _) ?_
        refine j_bipush (pc := 124) hM (v := nI 9) dX10_askBy_124 (by decide) ?_
        refine j_icmp_le (pc := 126) hM 134 dX10_askBy_126 (by decide) (cLE (by omega) (by omega)) (fun c126 => ?_) (fun c126 => ?_)
        · skip
          refine j_aload_n (pc := 134) hM dX10_askBy_134 rfl 2 rfl ?_
          refine j_get (pc := 135) hM fd_X10_120 0 rfl rfl dX10_askBy_135 ?_
          refine j_iload (pc := 138) hM dX10_askBy_138 0 rfl ?_
          refine j_iadd (pc := 140) hM (v := nI (st.2.1 + 1)) dX10_askBy_140 (nI_add _ _) ?_
          refine j_put (pc := 141) hM fp_X10_120 [(o, .inr (10, [.ref aP, .int (nI pn), .int (nI en), .int (nI ne), .int (nI ns), .int (nI nb), .int (nI na), .int (nI s.1), .int (nI s.2.1), .int (nI s.2.2), .int (nI tm), .int (nI sr), .ref aH, .ref aW, .ref aD, .ref aK, .ref aM, .int (nI (st.1 + ((mm - st.2.1) / 3))), .int (nI (st.2.1 + 1)), .int (nI st.2.2), .int (nI fd), .int (nI sn), .ref aG, .int (nI sd), .int (nI kS), .int (nI ks.1), .int (nI ks.2.1), .int (nI ks.2.2), .int (nI ktm), .int (nI ksn), .ref bH, .ref bW, .ref bK, .ref bM, .ref bG, .long hs]))] 0 rfl (lb rfl) rfl rfl rfl dX10_askBy_141 ?_
          exact hret () _ _ _ trivial (eq3 (fun (z0 : Nat) (z1 : Nat) (z2 : Nat) => ([(o, .inr (10, [.ref aP, .int (nI pn), .int (nI en), .int (nI ne), .int (nI ns), .int (nI nb), .int (nI na), .int (nI s.1), .int (nI s.2.1), .int (nI s.2.2), .int (nI tm), .int (nI sr), .ref aH, .ref aW, .ref aD, .ref aK, .ref aM, .int (nI z0), .int (nI z1), .int (nI z2), .int (nI fd), .int (nI sn), .ref aG, .int (nI sd), .int (nI kS), .int (nI ks.1), .int (nI ks.2.1), .int (nI ks.2.2), .int (nI ktm), .int (nI ksn), .ref bH, .ref bW, .ref bK, .ref bM, .ref bG, .long hs]))] : va_W)) (show (st.1 + ((mm - st.2.1) / 3)) = ((hear kk mm st).1) from by simp only [hear, rise, offn, thk]; repeat' (first | omega | split)) (show (st.2.1 + 1) = ((hear kk mm st).2.1) from by simp only [hear, rise, offn, thk]; repeat' (first | omega | split)) (show st.2.2 = ((hear kk mm st).2.2) from by simp only [hear, rise, offn, thk]; repeat' (first | omega | split))) rfl dX10_askBy_144
        · skip
          refine j_bipush (pc := 129) hM (v := nI 9) dX10_askBy_129 (by decide) ?_
          refine j_goto (pc := 131) hM 141 dX10_askBy_131 (by decide) ?_
          refine j_put (pc := 141) hM fp_X10_120 [(o, .inr (10, [.ref aP, .int (nI pn), .int (nI en), .int (nI ne), .int (nI ns), .int (nI nb), .int (nI na), .int (nI s.1), .int (nI s.2.1), .int (nI s.2.2), .int (nI tm), .int (nI sr), .ref aH, .ref aW, .ref aD, .ref aK, .ref aM, .int (nI (st.1 + ((mm - st.2.1) / 3))), .int (nI 9), .int (nI st.2.2), .int (nI fd), .int (nI sn), .ref aG, .int (nI sd), .int (nI kS), .int (nI ks.1), .int (nI ks.2.1), .int (nI ks.2.2), .int (nI ktm), .int (nI ksn), .ref bH, .ref bW, .ref bK, .ref bM, .ref bG, .long hs]))] 0 rfl (lb rfl) rfl rfl rfl dX10_askBy_141 ?_
          exact hret () _ _ _ trivial (eq3 (fun (z0 : Nat) (z1 : Nat) (z2 : Nat) => ([(o, .inr (10, [.ref aP, .int (nI pn), .int (nI en), .int (nI ne), .int (nI ns), .int (nI nb), .int (nI na), .int (nI s.1), .int (nI s.2.1), .int (nI s.2.2), .int (nI tm), .int (nI sr), .ref aH, .ref aW, .ref aD, .ref aK, .ref aM, .int (nI z0), .int (nI z1), .int (nI z2), .int (nI fd), .int (nI sn), .ref aG, .int (nI sd), .int (nI kS), .int (nI ks.1), .int (nI ks.2.1), .int (nI ks.2.2), .int (nI ktm), .int (nI ksn), .ref bH, .ref bW, .ref bK, .ref bM, .ref bG, .long hs]))] : va_W)) (show (st.1 + ((mm - st.2.1) / 3)) = ((hear kk mm st).1) from by simp only [hear, rise, offn, thk]; repeat' (first | omega | split)) (show 9 = ((hear kk mm st).2.1) from by simp only [hear, rise, offn, thk]; repeat' (first | omega | split)) (show st.2.2 = ((hear kk mm st).2.2) from by simp only [hear, rise, offn, thk]; repeat' (first | omega | split))) rfl dX10_askBy_144
      · skip
        refine j_bipush (pc := 102) hM (v := nI 20) dX10_askBy_102 (by decide) ?_
        refine j_goto (pc := 104) hM 113 dX10_askBy_104 (by decide) ?_
        refine j_put (pc := 113) hM fp_X10_117 [(o, .inr (10, [.ref aP, .int (nI pn), .int (nI en), .int (nI ne), .int (nI ns), .int (nI nb), .int (nI na), .int (nI s.1), .int (nI s.2.1), .int (nI s.2.2), .int (nI tm), .int (nI sr), .ref aH, .ref aW, .ref aD, .ref aK, .ref aM, .int (nI 20), .int (nI st.2.1), .int (nI st.2.2), .int (nI fd), .int (nI sn), .ref aG, .int (nI sd), .int (nI kS), .int (nI ks.1), .int (nI ks.2.1), .int (nI ks.2.2), .int (nI ktm), .int (nI ksn), .ref bH, .ref bW, .ref bK, .ref bM, .ref bG, .long hs]))] 0 rfl (lb rfl) rfl rfl rfl dX10_askBy_113 ?_
        refine j_aload_n (pc := 116) hM dX10_askBy_116 rfl 2 rfl ?_
        refine j_aload_n (pc := 117) hM dX10_askBy_117 rfl 2 rfl ?_
        refine j_get (pc := 118) hM fd_X10_120 0 rfl rfl dX10_askBy_118 ?_
        refine j_iload (pc := 121) hM dX10_askBy_121 0 rfl ?_
        refine j_iadd (pc := 123) hM (v := nI (st.2.1 + 1)) dX10_askBy_123 (nI_add _ _) ?_
        refine j_bipush (pc := 124) hM (v := nI 9) dX10_askBy_124 (by decide) ?_
        refine j_icmp_le (pc := 126) hM 134 dX10_askBy_126 (by decide) (cLE (by omega) (by omega)) (fun c126 => ?_) (fun c126 => ?_)
        · skip
          refine j_aload_n (pc := 134) hM dX10_askBy_134 rfl 2 rfl ?_
          refine j_get (pc := 135) hM fd_X10_120 0 rfl rfl dX10_askBy_135 ?_
          refine j_iload (pc := 138) hM dX10_askBy_138 0 rfl ?_
          refine j_iadd (pc := 140) hM (v := nI (st.2.1 + 1)) dX10_askBy_140 (nI_add _ _) ?_
          refine j_put (pc := 141) hM fp_X10_120 [(o, .inr (10, [.ref aP, .int (nI pn), .int (nI en), .int (nI ne), .int (nI ns), .int (nI nb), .int (nI na), .int (nI s.1), .int (nI s.2.1), .int (nI s.2.2), .int (nI tm), .int (nI sr), .ref aH, .ref aW, .ref aD, .ref aK, .ref aM, .int (nI 20), .int (nI (st.2.1 + 1)), .int (nI st.2.2), .int (nI fd), .int (nI sn), .ref aG, .int (nI sd), .int (nI kS), .int (nI ks.1), .int (nI ks.2.1), .int (nI ks.2.2), .int (nI ktm), .int (nI ksn), .ref bH, .ref bW, .ref bK, .ref bM, .ref bG, .long hs]))] 0 rfl (lb rfl) rfl rfl rfl dX10_askBy_141 ?_
          exact hret () _ _ _ trivial (eq3 (fun (z0 : Nat) (z1 : Nat) (z2 : Nat) => ([(o, .inr (10, [.ref aP, .int (nI pn), .int (nI en), .int (nI ne), .int (nI ns), .int (nI nb), .int (nI na), .int (nI s.1), .int (nI s.2.1), .int (nI s.2.2), .int (nI tm), .int (nI sr), .ref aH, .ref aW, .ref aD, .ref aK, .ref aM, .int (nI z0), .int (nI z1), .int (nI z2), .int (nI fd), .int (nI sn), .ref aG, .int (nI sd), .int (nI kS), .int (nI ks.1), .int (nI ks.2.1), .int (nI ks.2.2), .int (nI ktm), .int (nI ksn), .ref bH, .ref bW, .ref bK, .ref bM, .ref bG, .long hs]))] : va_W)) (show 20 = ((hear kk mm st).1) from by simp only [hear, rise, offn, thk]; repeat' (first | omega | split)) (show (st.2.1 + 1) = ((hear kk mm st).2.1) from by simp only [hear, rise, offn, thk]; repeat' (first | omega | split)) (show st.2.2 = ((hear kk mm st).2.2) from by simp only [hear, rise, offn, thk]; repeat' (first | omega | split))) rfl dX10_askBy_144
        · skip
          refine j_bipush (pc := 129) hM (v := nI 9) dX10_askBy_129 (by decide) ?_
          refine j_goto (pc := 131) hM 141 dX10_askBy_131 (by decide) ?_
          refine j_put (pc := 141) hM fp_X10_120 [(o, .inr (10, [.ref aP, .int (nI pn), .int (nI en), .int (nI ne), .int (nI ns), .int (nI nb), .int (nI na), .int (nI s.1), .int (nI s.2.1), .int (nI s.2.2), .int (nI tm), .int (nI sr), .ref aH, .ref aW, .ref aD, .ref aK, .ref aM, .int (nI 20), .int (nI 9), .int (nI st.2.2), .int (nI fd), .int (nI sn), .ref aG, .int (nI sd), .int (nI kS), .int (nI ks.1), .int (nI ks.2.1), .int (nI ks.2.2), .int (nI ktm), .int (nI ksn), .ref bH, .ref bW, .ref bK, .ref bM, .ref bG, .long hs]))] 0 rfl (lb rfl) rfl rfl rfl dX10_askBy_141 ?_
          exact hret () _ _ _ trivial (eq3 (fun (z0 : Nat) (z1 : Nat) (z2 : Nat) => ([(o, .inr (10, [.ref aP, .int (nI pn), .int (nI en), .int (nI ne), .int (nI ns), .int (nI nb), .int (nI na), .int (nI s.1), .int (nI s.2.1), .int (nI s.2.2), .int (nI tm), .int (nI sr), .ref aH, .ref aW, .ref aD, .ref aK, .ref aM, .int (nI z0), .int (nI z1), .int (nI z2), .int (nI fd), .int (nI sn), .ref aG, .int (nI sd), .int (nI kS), .int (nI ks.1), .int (nI ks.2.1), .int (nI ks.2.2), .int (nI ktm), .int (nI ksn), .ref bH, .ref bW, .ref bK, .ref bM, .ref bG, .long hs]))] : va_W)) (show 20 = ((hear kk mm st).1) from by simp only [hear, rise, offn, thk]; repeat' (first | omega | split)) (show 9 = ((hear kk mm st).2.1) from by simp only [hear, rise, offn, thk]; repeat' (first | omega | split)) (show st.2.2 = ((hear kk mm st).2.2) from by simp only [hear, rise, offn, thk]; repeat' (first | omega | split))) rfl dX10_askBy_144
    · skip
      refine j_tsN (pc := 23) hM 2 70 dX10_askBy_23 s23 (by decide) (by decide) (by decide) rfl (by decide) ?_
      refine j_iload_n (pc := 70) hM dX10_askBy_70 rfl 1 rfl ?_
      refine j_iconst (pc := 71) hM (v := nI 2) dX10_askBy_71 (by decide) ?_
      refine j_imul (pc := 72) hM (v := nI ((mm - st.2.1) * 2)) dX10_askBy_72 (nmul _ _) ?_
      refine j_istore_n (pc := 73) hM [(3, .int (nI ((mm - st.2.1) * 2))), (4, .int (nI 0)), (0, .ref o), (1, .int (nI kk)), (2, .int (nI mm))] dX10_askBy_73 rfl (by decide) rfl ?_
      refine j_iconst (pc := 74) hM (v := nI 1) dX10_askBy_74 (by decide) ?_
      refine j_istore (pc := 75) hM [(4, .int (nI 1)), (3, .int (nI ((mm - st.2.1) * 2))), (0, .ref o), (1, .int (nI kk)), (2, .int (nI mm))] dX10_askBy_75 (by decide) rfl ?_
      refine j_goto (pc := 77) hM 90 dX10_askBy_77 (by decide) ?_
      refine j_aload_n (pc := 90) hM dX10_askBy_90 rfl 2 rfl ?_
      refine j_aload_n (pc := 91) hM dX10_askBy_91 rfl 2 rfl ?_
      refine j_get (pc := 92) hM fd_X10_117 0 rfl rfl dX10_askBy_92 ?_
      refine j_iload_n (pc := 95) hM dX10_askBy_95 rfl 1 rfl ?_
      refine j_iadd (pc := 96) hM (v := nI (st.1 + ((mm - st.2.1) * 2))) dX10_askBy_96 (nI_add _ _) ?_
      refine j_bipush (pc := 97) hM (v := nI 20) dX10_askBy_97 (by decide) ?_
      refine j_icmp_le (pc := 99) hM 107 dX10_askBy_99 (by decide) (cLE (by omega) (by omega)) (fun c99 => ?_) (fun c99 => ?_)
      · skip
        refine j_aload_n (pc := 107) hM dX10_askBy_107 rfl 2 rfl ?_
        refine j_get (pc := 108) hM fd_X10_117 0 rfl rfl dX10_askBy_108 ?_
        refine j_iload_n (pc := 111) hM dX10_askBy_111 rfl 1 rfl ?_
        refine j_iadd (pc := 112) hM (v := nI (st.1 + ((mm - st.2.1) * 2))) dX10_askBy_112 (nI_add _ _) ?_
        refine j_put (pc := 113) hM fp_X10_117 [(o, .inr (10, [.ref aP, .int (nI pn), .int (nI en), .int (nI ne), .int (nI ns), .int (nI nb), .int (nI na), .int (nI s.1), .int (nI s.2.1), .int (nI s.2.2), .int (nI tm), .int (nI sr), .ref aH, .ref aW, .ref aD, .ref aK, .ref aM, .int (nI (st.1 + ((mm - st.2.1) * 2))), .int (nI st.2.1), .int (nI st.2.2), .int (nI fd), .int (nI sn), .ref aG, .int (nI sd), .int (nI kS), .int (nI ks.1), .int (nI ks.2.1), .int (nI ks.2.2), .int (nI ktm), .int (nI ksn), .ref bH, .ref bW, .ref bK, .ref bM, .ref bG, .long hs]))] 0 rfl (lb rfl) rfl rfl rfl dX10_askBy_113 ?_
        refine j_aload_n (pc := 116) hM dX10_askBy_116 rfl 2 rfl ?_
        refine j_aload_n (pc := 117) hM dX10_askBy_117 rfl 2 rfl ?_
        refine j_get (pc := 118) hM fd_X10_120 0 rfl rfl dX10_askBy_118 ?_
        refine j_iload (pc := 121) hM dX10_askBy_121 0 rfl ?_
        refine j_iadd (pc := 123) hM (v := nI (st.2.1 + 1)) dX10_askBy_123 (nI_add _ _) ?_
        refine j_bipush (pc := 124) hM (v := nI 9) dX10_askBy_124 (by decide) ?_
        refine j_icmp_le (pc := 126) hM 134 dX10_askBy_126 (by decide) (cLE (by omega) (by omega)) (fun c126 => ?_) (fun c126 => ?_)
        · skip
          refine j_aload_n (pc := 134) hM dX10_askBy_134 rfl 2 rfl ?_
          refine j_get (pc := 135) hM fd_X10_120 0 rfl rfl dX10_askBy_135 ?_
          refine j_iload (pc := 138) hM dX10_askBy_138 0 rfl ?_
          refine j_iadd (pc := 140) hM (v := nI (st.2.1 + 1)) dX10_askBy_140 (nI_add _ _) ?_
          refine j_put (pc := 141) hM fp_X10_120 [(o, .inr (10, [.ref aP, .int (nI pn), .int (nI en), .int (nI ne), .int (nI ns), .int (nI nb), .int (nI na), .int (nI s.1), .int (nI s.2.1), .int (nI s.2.2), .int (nI tm), .int (nI sr), .ref aH, .ref aW, .ref aD, .ref aK, .ref aM, .int (nI (st.1 + ((mm - st.2.1) * 2))), .int (nI (st.2.1 + 1)), .int (nI st.2.2), .int (nI fd), .int (nI sn), .ref aG, .int (nI sd), .int (nI kS), .int (nI ks.1), .int (nI ks.2.1), .int (nI ks.2.2), .int (nI ktm), .int (nI ksn), .ref bH, .ref bW, .ref bK, .ref bM, .ref bG, .long hs]))] 0 rfl (lb rfl) rfl rfl rfl dX10_askBy_141 ?_
          exact hret () _ _ _ trivial (eq3 (fun (z0 : Nat) (z1 : Nat) (z2 : Nat) => ([(o, .inr (10, [.ref aP, .int (nI pn), .int (nI en), .int (nI ne), .int (nI ns), .int (nI nb), .int (nI na), .int (nI s.1), .int (nI s.2.1), .int (nI s.2.2), .int (nI tm), .int (nI sr), .ref aH, .ref aW, .ref aD, .ref aK, .ref aM, .int (nI z0), .int (nI z1), .int (nI z2), .int (nI fd), .int (nI sn), .ref aG, .int (nI sd), .int (nI kS), .int (nI ks.1), .int (nI ks.2.1), .int (nI ks.2.2), .int (nI ktm), .int (nI ksn), .ref bH, .ref bW, .ref bK, .ref bM, .ref bG, .long hs]))] : va_W)) (show (st.1 + ((mm - st.2.1) * 2)) = ((hear kk mm st).1) from by simp only [hear, rise, offn, thk]; repeat' (first | omega | split)) (show (st.2.1 + 1) = ((hear kk mm st).2.1) from by simp only [hear, rise, offn, thk]; repeat' (first | omega | split)) (show st.2.2 = ((hear kk mm st).2.2) from by simp only [hear, rise, offn, thk]; repeat' (first | omega | split))) rfl dX10_askBy_144
        · skip
          refine j_bipush (pc := 129) hM (v := nI 9) dX10_askBy_129 (by decide) ?_
          refine j_goto (pc := 131) hM 141 dX10_askBy_131 (by decide) ?_
          refine j_put (pc := 141) hM fp_X10_120 [(o, .inr (10, [.ref aP, .int (nI pn), .int (nI en), .int (nI ne), .int (nI ns), .int (nI nb), .int (nI na), .int (nI s.1), .int (nI s.2.1), .int (nI s.2.2), .int (nI tm), .int (nI sr), .ref aH, .ref aW, .ref aD, .ref aK, .ref aM, .int (nI (st.1 + ((mm - st.2.1) * 2))), .int (nI 9), .int (nI st.2.2), .int (nI fd), .int (nI sn), .ref aG, .int (nI sd), .int (nI kS), .int (nI ks.1), .int (nI ks.2.1), .int (nI ks.2.2), .int (nI ktm), .int (nI ksn), .ref bH, .ref bW, .ref bK, .ref bM, .ref bG, .long hs]))] 0 rfl (lb rfl) rfl rfl rfl dX10_askBy_141 ?_
          exact hret () _ _ _ trivial (eq3 (fun (z0 : Nat) (z1 : Nat) (z2 : Nat) => ([(o, .inr (10, [.ref aP, .int (nI pn), .int (nI en), .int (nI ne), .int (nI ns), .int (nI nb), .int (nI na), .int (nI s.1), .int (nI s.2.1), .int (nI s.2.2), .int (nI tm), .int (nI sr), .ref aH, .ref aW, .ref aD, .ref aK, .ref aM, .int (nI z0), .int (nI z1), .int (nI z2), .int (nI fd), .int (nI sn), .ref aG, .int (nI sd), .int (nI kS), .int (nI ks.1), .int (nI ks.2.1), .int (nI ks.2.2), .int (nI ktm), .int (nI ksn), .ref bH, .ref bW, .ref bK, .ref bM, .ref bG, .long hs]))] : va_W)) (show (st.1 + ((mm - st.2.1) * 2)) = ((hear kk mm st).1) from by simp only [hear, rise, offn, thk]; repeat' (first | omega | split)) (show 9 = ((hear kk mm st).2.1) from by simp only [hear, rise, offn, thk]; repeat' (first | omega | split)) (show st.2.2 = ((hear kk mm st).2.2) from by simp only [hear, rise, offn, thk]; repeat' (first | omega | split))) rfl dX10_askBy_144
      · skip
        refine j_bipush (pc := 102) hM (v := nI 20) dX10_askBy_102 (by decide) ?_
        refine j_goto (pc := 104) hM 113 dX10_askBy_104 (by decide) ?_
        refine j_put (pc := 113) hM fp_X10_117 [(o, .inr (10, [.ref aP, .int (nI pn), .int (nI en), .int (nI ne), .int (nI ns), .int (nI nb), .int (nI na), .int (nI s.1), .int (nI s.2.1), .int (nI s.2.2), .int (nI tm), .int (nI sr), .ref aH, .ref aW, .ref aD, .ref aK, .ref aM, .int (nI 20), .int (nI st.2.1), .int (nI st.2.2), .int (nI fd), .int (nI sn), .ref aG, .int (nI sd), .int (nI kS), .int (nI ks.1), .int (nI ks.2.1), .int (nI ks.2.2), .int (nI ktm), .int (nI ksn), .ref bH, .ref bW, .ref bK, .ref bM, .ref bG, .long hs]))] 0 rfl (lb rfl) rfl rfl rfl dX10_askBy_113 ?_
        refine j_aload_n (pc := 116) hM dX10_askBy_116 rfl 2 rfl ?_
        refine j_aload_n (pc := 117) hM dX10_askBy_117 rfl 2 rfl ?_
        refine j_get (pc := 118) hM fd_X10_120 0 rfl rfl dX10_askBy_118 ?_
        refine j_iload (pc := 121) hM dX10_askBy_121 0 rfl ?_
        refine j_iadd (pc := 123) hM (v := nI (st.2.1 + 1)) dX10_askBy_123 (nI_add _ _) ?_
        refine j_bipush (pc := 124) hM (v := nI 9) dX10_askBy_124 (by decide) ?_
        refine j_icmp_le (pc := 126) hM 134 dX10_askBy_126 (by decide) (cLE (by omega) (by omega)) (fun c126 => ?_) (fun c126 => ?_)
        · skip
          refine j_aload_n (pc := 134) hM dX10_askBy_134 rfl 2 rfl ?_
          refine j_get (pc := 135) hM fd_X10_120 0 rfl rfl dX10_askBy_135 ?_
          refine j_iload (pc := 138) hM dX10_askBy_138 0 rfl ?_
          refine j_iadd (pc := 140) hM (v := nI (st.2.1 + 1)) dX10_askBy_140 (nI_add _ _) ?_
          refine j_put (pc := 141) hM fp_X10_120 [(o, .inr (10, [.ref aP, .int (nI pn), .int (nI en), .int (nI ne), .int (nI ns), .int (nI nb), .int (nI na), .int (nI s.1), .int (nI s.2.1), .int (nI s.2.2), .int (nI tm), .int (nI sr), .ref aH, .ref aW, .ref aD, .ref aK, .ref aM, .int (nI 20), .int (nI (st.2.1 + 1)), .int (nI st.2.2), .int (nI fd), .int (nI sn), .ref aG, .int (nI sd), .int (nI kS), .int (nI ks.1), .int (nI ks.2.1), .int (nI ks.2.2), .int (nI ktm), .int (nI ksn), .ref bH, .ref bW, .ref bK, .ref bM, .ref bG, .long hs]))] 0 rfl (lb rfl) rfl rfl rfl dX10_askBy_141 ?_
          exact hret () _ _ _ trivial (eq3 (fun (z0 : Nat) (z1 : Nat) (z2 : Nat) => ([(o, .inr (10, [.ref aP, .int (nI pn), .int (nI en), .int (nI ne), .int (nI ns), .int (nI nb), .int (nI na), .int (nI s.1), .int (nI s.2.1), .int (nI s.2.2), .int (nI tm), .int (nI sr), .ref aH, .ref aW, .ref aD, .ref aK, .ref aM, .int (nI z0), .int (nI z1), .int (nI z2), .int (nI fd), .int (nI sn), .ref aG, .int (nI sd), .int (nI kS), .int (nI ks.1), .int (nI ks.2.1), .int (nI ks.2.2), .int (nI ktm), .int (nI ksn), .ref bH, .ref bW, .ref bK, .ref bM, .ref bG, .long hs]))] : va_W)) (show 20 = ((hear kk mm st).1) from by simp only [hear, rise, offn, thk]; repeat' (first | omega | split)) (show (st.2.1 + 1) = ((hear kk mm st).2.1) from by simp only [hear, rise, offn, thk]; repeat' (first | omega | split)) (show st.2.2 = ((hear kk mm st).2.2) from by simp only [hear, rise, offn, thk]; repeat' (first | omega | split))) rfl dX10_askBy_144
        · skip
          refine j_bipush (pc := 129) hM (v := nI 9) dX10_askBy_129 (by decide) ?_
          refine j_goto (pc := 131) hM 141 dX10_askBy_131 (by decide) ?_
          refine j_put (pc := 141) hM fp_X10_120 [(o, .inr (10, [.ref aP, .int (nI pn), .int (nI en), .int (nI ne), .int (nI ns), .int (nI nb), .int (nI na), .int (nI s.1), .int (nI s.2.1), .int (nI s.2.2), .int (nI tm), .int (nI sr), .ref aH, .ref aW, .ref aD, .ref aK, .ref aM, .int (nI 20), .int (nI 9), .int (nI st.2.2), .int (nI fd), .int (nI sn), .ref aG, .int (nI sd), .int (nI kS), .int (nI ks.1), .int (nI ks.2.1), .int (nI ks.2.2), .int (nI ktm), .int (nI ksn), .ref bH, .ref bW, .ref bK, .ref bM, .ref bG, .long hs]))] 0 rfl (lb rfl) rfl rfl rfl dX10_askBy_141 ?_
          exact hret () _ _ _ trivial (eq3 (fun (z0 : Nat) (z1 : Nat) (z2 : Nat) => ([(o, .inr (10, [.ref aP, .int (nI pn), .int (nI en), .int (nI ne), .int (nI ns), .int (nI nb), .int (nI na), .int (nI s.1), .int (nI s.2.1), .int (nI s.2.2), .int (nI tm), .int (nI sr), .ref aH, .ref aW, .ref aD, .ref aK, .ref aM, .int (nI z0), .int (nI z1), .int (nI z2), .int (nI fd), .int (nI sn), .ref aG, .int (nI sd), .int (nI kS), .int (nI ks.1), .int (nI ks.2.1), .int (nI ks.2.2), .int (nI ktm), .int (nI ksn), .ref bH, .ref bW, .ref bK, .ref bM, .ref bG, .long hs]))] : va_W)) (show 20 = ((hear kk mm st).1) from by simp only [hear, rise, offn, thk]; repeat' (first | omega | split)) (show 9 = ((hear kk mm st).2.1) from by simp only [hear, rise, offn, thk]; repeat' (first | omega | split)) (show st.2.2 = ((hear kk mm st).2.2) from by simp only [hear, rise, offn, thk]; repeat' (first | omega | split))) rfl dX10_askBy_144
    · skip
      refine j_tsN (pc := 23) hM 3 80 dX10_askBy_23 s23 (by decide) (by decide) (by decide) rfl (by decide) ?_
      refine j_iconst (pc := 80) hM (v := nI 0) dX10_askBy_80 (by decide) ?_
      refine j_istore_n (pc := 81) hM [(3, .int (nI 0)), (4, .int (nI 0)), (0, .ref o), (1, .int (nI kk)), (2, .int (nI mm))] dX10_askBy_81 rfl (by decide) rfl ?_
      refine j_aload_n (pc := 82) hM dX10_askBy_82 rfl 2 rfl ?_
      refine j_iconst (pc := 83) hM (v := nI 1) dX10_askBy_83 (by decide) ?_
      refine j_put (pc := 84) hM fp_X10_123 [(o, .inr (10, [.ref aP, .int (nI pn), .int (nI en), .int (nI ne), .int (nI ns), .int (nI nb), .int (nI na), .int (nI s.1), .int (nI s.2.1), .int (nI s.2.2), .int (nI tm), .int (nI sr), .ref aH, .ref aW, .ref aD, .ref aK, .ref aM, .int (nI st.1), .int (nI st.2.1), .int (nI 1), .int (nI fd), .int (nI sn), .ref aG, .int (nI sd), .int (nI kS), .int (nI ks.1), .int (nI ks.2.1), .int (nI ks.2.2), .int (nI ktm), .int (nI ksn), .ref bH, .ref bW, .ref bK, .ref bM, .ref bG, .long hs]))] 0 rfl (lb rfl) rfl rfl rfl dX10_askBy_84 ?_
      refine j_goto (pc := 87) hM 90 dX10_askBy_87 (by decide) ?_
      refine j_aload_n (pc := 90) hM dX10_askBy_90 rfl 2 rfl ?_
      refine j_aload_n (pc := 91) hM dX10_askBy_91 rfl 2 rfl ?_
      refine j_get (pc := 92) hM fd_X10_117 0 rfl rfl dX10_askBy_92 ?_
      refine j_iload_n (pc := 95) hM dX10_askBy_95 rfl 0 rfl ?_
      refine j_iadd (pc := 96) hM (v := nI (st.1 + 0)) dX10_askBy_96 (nI_add _ _) ?_
      refine j_bipush (pc := 97) hM (v := nI 20) dX10_askBy_97 (by decide) ?_
      refine j_icmp_le (pc := 99) hM 107 dX10_askBy_99 (by decide) (cLE (by omega) (by omega)) (fun c99 => ?_) (fun c99 => ?_)
      · skip
        refine j_aload_n (pc := 107) hM dX10_askBy_107 rfl 2 rfl ?_
        refine j_get (pc := 108) hM fd_X10_117 0 rfl rfl dX10_askBy_108 ?_
        refine j_iload_n (pc := 111) hM dX10_askBy_111 rfl 0 rfl ?_
        refine j_iadd (pc := 112) hM (v := nI (st.1 + 0)) dX10_askBy_112 (nI_add _ _) ?_
        refine j_put (pc := 113) hM fp_X10_117 [(o, .inr (10, [.ref aP, .int (nI pn), .int (nI en), .int (nI ne), .int (nI ns), .int (nI nb), .int (nI na), .int (nI s.1), .int (nI s.2.1), .int (nI s.2.2), .int (nI tm), .int (nI sr), .ref aH, .ref aW, .ref aD, .ref aK, .ref aM, .int (nI (st.1 + 0)), .int (nI st.2.1), .int (nI 1), .int (nI fd), .int (nI sn), .ref aG, .int (nI sd), .int (nI kS), .int (nI ks.1), .int (nI ks.2.1), .int (nI ks.2.2), .int (nI ktm), .int (nI ksn), .ref bH, .ref bW, .ref bK, .ref bM, .ref bG, .long hs]))] 0 rfl (lb rfl) rfl rfl rfl dX10_askBy_113 ?_
        refine j_aload_n (pc := 116) hM dX10_askBy_116 rfl 2 rfl ?_
        refine j_aload_n (pc := 117) hM dX10_askBy_117 rfl 2 rfl ?_
        refine j_get (pc := 118) hM fd_X10_120 0 rfl rfl dX10_askBy_118 ?_
        refine j_iload (pc := 121) hM dX10_askBy_121 1 rfl ?_
        refine j_iadd (pc := 123) hM (v := nI (st.2.1 + 0)) dX10_askBy_123 (nI_add _ _) ?_
        refine j_bipush (pc := 124) hM (v := nI 9) dX10_askBy_124 (by decide) ?_
        refine j_icmp_le (pc := 126) hM 134 dX10_askBy_126 (by decide) (cLE (by omega) (by omega)) (fun c126 => ?_) (fun c126 => ?_)
        · skip
          refine j_aload_n (pc := 134) hM dX10_askBy_134 rfl 2 rfl ?_
          refine j_get (pc := 135) hM fd_X10_120 0 rfl rfl dX10_askBy_135 ?_
          refine j_iload (pc := 138) hM dX10_askBy_138 1 rfl ?_
          refine j_iadd (pc := 140) hM (v := nI (st.2.1 + 0)) dX10_askBy_140 (nI_add _ _) ?_
          refine j_put (pc := 141) hM fp_X10_120 [(o, .inr (10, [.ref aP, .int (nI pn), .int (nI en), .int (nI ne), .int (nI ns), .int (nI nb), .int (nI na), .int (nI s.1), .int (nI s.2.1), .int (nI s.2.2), .int (nI tm), .int (nI sr), .ref aH, .ref aW, .ref aD, .ref aK, .ref aM, .int (nI (st.1 + 0)), .int (nI (st.2.1 + 0)), .int (nI 1), .int (nI fd), .int (nI sn), .ref aG, .int (nI sd), .int (nI kS), .int (nI ks.1), .int (nI ks.2.1), .int (nI ks.2.2), .int (nI ktm), .int (nI ksn), .ref bH, .ref bW, .ref bK, .ref bM, .ref bG, .long hs]))] 0 rfl (lb rfl) rfl rfl rfl dX10_askBy_141 ?_
          exact hret () _ _ _ trivial (eq3 (fun (z0 : Nat) (z1 : Nat) (z2 : Nat) => ([(o, .inr (10, [.ref aP, .int (nI pn), .int (nI en), .int (nI ne), .int (nI ns), .int (nI nb), .int (nI na), .int (nI s.1), .int (nI s.2.1), .int (nI s.2.2), .int (nI tm), .int (nI sr), .ref aH, .ref aW, .ref aD, .ref aK, .ref aM, .int (nI z0), .int (nI z1), .int (nI z2), .int (nI fd), .int (nI sn), .ref aG, .int (nI sd), .int (nI kS), .int (nI ks.1), .int (nI ks.2.1), .int (nI ks.2.2), .int (nI ktm), .int (nI ksn), .ref bH, .ref bW, .ref bK, .ref bM, .ref bG, .long hs]))] : va_W)) (show (st.1 + 0) = ((hear kk mm st).1) from by simp only [hear, rise, offn, thk]; repeat' (first | omega | split)) (show (st.2.1 + 0) = ((hear kk mm st).2.1) from by simp only [hear, rise, offn, thk]; repeat' (first | omega | split)) (show 1 = ((hear kk mm st).2.2) from by simp only [hear, rise, offn, thk]; repeat' (first | omega | split))) rfl dX10_askBy_144
        · skip
          refine j_bipush (pc := 129) hM (v := nI 9) dX10_askBy_129 (by decide) ?_
          refine j_goto (pc := 131) hM 141 dX10_askBy_131 (by decide) ?_
          refine j_put (pc := 141) hM fp_X10_120 [(o, .inr (10, [.ref aP, .int (nI pn), .int (nI en), .int (nI ne), .int (nI ns), .int (nI nb), .int (nI na), .int (nI s.1), .int (nI s.2.1), .int (nI s.2.2), .int (nI tm), .int (nI sr), .ref aH, .ref aW, .ref aD, .ref aK, .ref aM, .int (nI (st.1 + 0)), .int (nI 9), .int (nI 1), .int (nI fd), .int (nI sn), .ref aG, .int (nI sd), .int (nI kS), .int (nI ks.1), .int (nI ks.2.1), .int (nI ks.2.2), .int (nI ktm), .int (nI ksn), .ref bH, .ref bW, .ref bK, .ref bM, .ref bG, .long hs]))] 0 rfl (lb rfl) rfl rfl rfl dX10_askBy_141 ?_
          exact hret () _ _ _ trivial (eq3 (fun (z0 : Nat) (z1 : Nat) (z2 : Nat) => ([(o, .inr (10, [.ref aP, .int (nI pn), .int (nI en), .int (nI ne), .int (nI ns), .int (nI nb), .int (nI na), .int (nI s.1), .int (nI s.2.1), .int (nI s.2.2), .int (nI tm), .int (nI sr), .ref aH, .ref aW, .ref aD, .ref aK, .ref aM, .int (nI z0), .int (nI z1), .int (nI z2), .int (nI fd), .int (nI sn), .ref aG, .int (nI sd), .int (nI kS), .int (nI ks.1), .int (nI ks.2.1), .int (nI ks.2.2), .int (nI ktm), .int (nI ksn), .ref bH, .ref bW, .ref bK, .ref bM, .ref bG, .long hs]))] : va_W)) (show (st.1 + 0) = ((hear kk mm st).1) from by simp only [hear, rise, offn, thk]; repeat' (first | omega | split)) (show 9 = ((hear kk mm st).2.1) from by simp only [hear, rise, offn, thk]; repeat' (first | omega | split)) (show 1 = ((hear kk mm st).2.2) from by simp only [hear, rise, offn, thk]; repeat' (first | omega | split))) rfl dX10_askBy_144
      · skip
        refine j_bipush (pc := 102) hM (v := nI 20) dX10_askBy_102 (by decide) ?_
        refine j_goto (pc := 104) hM 113 dX10_askBy_104 (by decide) ?_
        refine j_put (pc := 113) hM fp_X10_117 [(o, .inr (10, [.ref aP, .int (nI pn), .int (nI en), .int (nI ne), .int (nI ns), .int (nI nb), .int (nI na), .int (nI s.1), .int (nI s.2.1), .int (nI s.2.2), .int (nI tm), .int (nI sr), .ref aH, .ref aW, .ref aD, .ref aK, .ref aM, .int (nI 20), .int (nI st.2.1), .int (nI 1), .int (nI fd), .int (nI sn), .ref aG, .int (nI sd), .int (nI kS), .int (nI ks.1), .int (nI ks.2.1), .int (nI ks.2.2), .int (nI ktm), .int (nI ksn), .ref bH, .ref bW, .ref bK, .ref bM, .ref bG, .long hs]))] 0 rfl (lb rfl) rfl rfl rfl dX10_askBy_113 ?_
        refine j_aload_n (pc := 116) hM dX10_askBy_116 rfl 2 rfl ?_
        refine j_aload_n (pc := 117) hM dX10_askBy_117 rfl 2 rfl ?_
        refine j_get (pc := 118) hM fd_X10_120 0 rfl rfl dX10_askBy_118 ?_
        refine j_iload (pc := 121) hM dX10_askBy_121 1 rfl ?_
        refine j_iadd (pc := 123) hM (v := nI (st.2.1 + 0)) dX10_askBy_123 (nI_add _ _) ?_
        refine j_bipush (pc := 124) hM (v := nI 9) dX10_askBy_124 (by decide) ?_
        refine j_icmp_le (pc := 126) hM 134 dX10_askBy_126 (by decide) (cLE (by omega) (by omega)) (fun c126 => ?_) (fun c126 => ?_)
        · skip
          refine j_aload_n (pc := 134) hM dX10_askBy_134 rfl 2 rfl ?_
          refine j_get (pc := 135) hM fd_X10_120 0 rfl rfl dX10_askBy_135 ?_
          refine j_iload (pc := 138) hM dX10_askBy_138 1 rfl ?_
          refine j_iadd (pc := 140) hM (v := nI (st.2.1 + 0)) dX10_askBy_140 (nI_add _ _) ?_
          refine j_put (pc := 141) hM fp_X10_120 [(o, .inr (10, [.ref aP, .int (nI pn), .int (nI en), .int (nI ne), .int (nI ns), .int (nI nb), .int (nI na), .int (nI s.1), .int (nI s.2.1), .int (nI s.2.2), .int (nI tm), .int (nI sr), .ref aH, .ref aW, .ref aD, .ref aK, .ref aM, .int (nI 20), .int (nI (st.2.1 + 0)), .int (nI 1), .int (nI fd), .int (nI sn), .ref aG, .int (nI sd), .int (nI kS), .int (nI ks.1), .int (nI ks.2.1), .int (nI ks.2.2), .int (nI ktm), .int (nI ksn), .ref bH, .ref bW, .ref bK, .ref bM, .ref bG, .long hs]))] 0 rfl (lb rfl) rfl rfl rfl dX10_askBy_141 ?_
          exact hret () _ _ _ trivial (eq3 (fun (z0 : Nat) (z1 : Nat) (z2 : Nat) => ([(o, .inr (10, [.ref aP, .int (nI pn), .int (nI en), .int (nI ne), .int (nI ns), .int (nI nb), .int (nI na), .int (nI s.1), .int (nI s.2.1), .int (nI s.2.2), .int (nI tm), .int (nI sr), .ref aH, .ref aW, .ref aD, .ref aK, .ref aM, .int (nI z0), .int (nI z1), .int (nI z2), .int (nI fd), .int (nI sn), .ref aG, .int (nI sd), .int (nI kS), .int (nI ks.1), .int (nI ks.2.1), .int (nI ks.2.2), .int (nI ktm), .int (nI ksn), .ref bH, .ref bW, .ref bK, .ref bM, .ref bG, .long hs]))] : va_W)) (show 20 = ((hear kk mm st).1) from by simp only [hear, rise, offn, thk]; repeat' (first | omega | split)) (show (st.2.1 + 0) = ((hear kk mm st).2.1) from by simp only [hear, rise, offn, thk]; repeat' (first | omega | split)) (show 1 = ((hear kk mm st).2.2) from by simp only [hear, rise, offn, thk]; repeat' (first | omega | split))) rfl dX10_askBy_144
        · skip
          refine j_bipush (pc := 129) hM (v := nI 9) dX10_askBy_129 (by decide) ?_
          refine j_goto (pc := 131) hM 141 dX10_askBy_131 (by decide) ?_
          refine j_put (pc := 141) hM fp_X10_120 [(o, .inr (10, [.ref aP, .int (nI pn), .int (nI en), .int (nI ne), .int (nI ns), .int (nI nb), .int (nI na), .int (nI s.1), .int (nI s.2.1), .int (nI s.2.2), .int (nI tm), .int (nI sr), .ref aH, .ref aW, .ref aD, .ref aK, .ref aM, .int (nI 20), .int (nI 9), .int (nI 1), .int (nI fd), .int (nI sn), .ref aG, .int (nI sd), .int (nI kS), .int (nI ks.1), .int (nI ks.2.1), .int (nI ks.2.2), .int (nI ktm), .int (nI ksn), .ref bH, .ref bW, .ref bK, .ref bM, .ref bG, .long hs]))] 0 rfl (lb rfl) rfl rfl rfl dX10_askBy_141 ?_
          exact hret () _ _ _ trivial (eq3 (fun (z0 : Nat) (z1 : Nat) (z2 : Nat) => ([(o, .inr (10, [.ref aP, .int (nI pn), .int (nI en), .int (nI ne), .int (nI ns), .int (nI nb), .int (nI na), .int (nI s.1), .int (nI s.2.1), .int (nI s.2.2), .int (nI tm), .int (nI sr), .ref aH, .ref aW, .ref aD, .ref aK, .ref aM, .int (nI z0), .int (nI z1), .int (nI z2), .int (nI fd), .int (nI sn), .ref aG, .int (nI sd), .int (nI kS), .int (nI ks.1), .int (nI ks.2.1), .int (nI ks.2.2), .int (nI ktm), .int (nI ksn), .ref bH, .ref bW, .ref bK, .ref bM, .ref bG, .long hs]))] : va_W)) (show 20 = ((hear kk mm st).1) from by simp only [hear, rise, offn, thk]; repeat' (first | omega | split)) (show 9 = ((hear kk mm st).2.1) from by simp only [hear, rise, offn, thk]; repeat' (first | omega | split)) (show 1 = ((hear kk mm st).2.2) from by simp only [hear, rise, offn, thk]; repeat' (first | omega | split))) rfl dX10_askBy_144
    · skip
      refine j_tsN (pc := 23) hM 4 62 dX10_askBy_23 s23 (by decide) (by decide) (by decide) rfl (by decide) ?_
      refine j_iconst (pc := 62) hM (v := nI 0) dX10_askBy_62 (by decide) ?_
      refine j_istore_n (pc := 63) hM [(3, .int (nI 0)), (4, .int (nI 0)), (0, .ref o), (1, .int (nI kk)), (2, .int (nI mm))] dX10_askBy_63 rfl (by decide) rfl ?_
      refine j_iconst (pc := 64) hM (v := nI 2) dX10_askBy_64 (by decide) ?_
      refine j_istore (pc := 65) hM [(4, .int (nI 2)), (3, .int (nI 0)), (0, .ref o), (1, .int (nI kk)), (2, .int (nI mm))] dX10_askBy_65 (by decide) rfl ?_
      refine j_goto (pc := 67) hM 90 dX10_askBy_67 (by decide) ?_
      refine j_aload_n (pc := 90) hM dX10_askBy_90 rfl 2 rfl ?_
      refine j_aload_n (pc := 91) hM dX10_askBy_91 rfl 2 rfl ?_
      refine j_get (pc := 92) hM fd_X10_117 0 rfl rfl dX10_askBy_92 ?_
      refine j_iload_n (pc := 95) hM dX10_askBy_95 rfl 1 rfl ?_
      refine j_iadd (pc := 96) hM (v := nI (st.1 + 0)) dX10_askBy_96 (nI_add _ _) ?_
      refine j_bipush (pc := 97) hM (v := nI 20) dX10_askBy_97 (by decide) ?_
      refine j_icmp_le (pc := 99) hM 107 dX10_askBy_99 (by decide) (cLE (by omega) (by omega)) (fun c99 => ?_) (fun c99 => ?_)
      · skip
        refine j_aload_n (pc := 107) hM dX10_askBy_107 rfl 2 rfl ?_
        refine j_get (pc := 108) hM fd_X10_117 0 rfl rfl dX10_askBy_108 ?_
        refine j_iload_n (pc := 111) hM dX10_askBy_111 rfl 1 rfl ?_
        refine j_iadd (pc := 112) hM (v := nI (st.1 + 0)) dX10_askBy_112 (nI_add _ _) ?_
        refine j_put (pc := 113) hM fp_X10_117 [(o, .inr (10, [.ref aP, .int (nI pn), .int (nI en), .int (nI ne), .int (nI ns), .int (nI nb), .int (nI na), .int (nI s.1), .int (nI s.2.1), .int (nI s.2.2), .int (nI tm), .int (nI sr), .ref aH, .ref aW, .ref aD, .ref aK, .ref aM, .int (nI (st.1 + 0)), .int (nI st.2.1), .int (nI st.2.2), .int (nI fd), .int (nI sn), .ref aG, .int (nI sd), .int (nI kS), .int (nI ks.1), .int (nI ks.2.1), .int (nI ks.2.2), .int (nI ktm), .int (nI ksn), .ref bH, .ref bW, .ref bK, .ref bM, .ref bG, .long hs]))] 0 rfl (lb rfl) rfl rfl rfl dX10_askBy_113 ?_
        refine j_aload_n (pc := 116) hM dX10_askBy_116 rfl 2 rfl ?_
        refine j_aload_n (pc := 117) hM dX10_askBy_117 rfl 2 rfl ?_
        refine j_get (pc := 118) hM fd_X10_120 0 rfl rfl dX10_askBy_118 ?_
        refine j_iload (pc := 121) hM dX10_askBy_121 0 rfl ?_
        refine j_iadd (pc := 123) hM (v := nI (st.2.1 + 2)) dX10_askBy_123 (nI_add _ _) ?_
        refine j_bipush (pc := 124) hM (v := nI 9) dX10_askBy_124 (by decide) ?_
        refine j_icmp_le (pc := 126) hM 134 dX10_askBy_126 (by decide) (cLE (by omega) (by omega)) (fun c126 => ?_) (fun c126 => ?_)
        · skip
          refine j_aload_n (pc := 134) hM dX10_askBy_134 rfl 2 rfl ?_
          refine j_get (pc := 135) hM fd_X10_120 0 rfl rfl dX10_askBy_135 ?_
          refine j_iload (pc := 138) hM dX10_askBy_138 0 rfl ?_
          refine j_iadd (pc := 140) hM (v := nI (st.2.1 + 2)) dX10_askBy_140 (nI_add _ _) ?_
          refine j_put (pc := 141) hM fp_X10_120 [(o, .inr (10, [.ref aP, .int (nI pn), .int (nI en), .int (nI ne), .int (nI ns), .int (nI nb), .int (nI na), .int (nI s.1), .int (nI s.2.1), .int (nI s.2.2), .int (nI tm), .int (nI sr), .ref aH, .ref aW, .ref aD, .ref aK, .ref aM, .int (nI (st.1 + 0)), .int (nI (st.2.1 + 2)), .int (nI st.2.2), .int (nI fd), .int (nI sn), .ref aG, .int (nI sd), .int (nI kS), .int (nI ks.1), .int (nI ks.2.1), .int (nI ks.2.2), .int (nI ktm), .int (nI ksn), .ref bH, .ref bW, .ref bK, .ref bM, .ref bG, .long hs]))] 0 rfl (lb rfl) rfl rfl rfl dX10_askBy_141 ?_
          exact hret () _ _ _ trivial (eq3 (fun (z0 : Nat) (z1 : Nat) (z2 : Nat) => ([(o, .inr (10, [.ref aP, .int (nI pn), .int (nI en), .int (nI ne), .int (nI ns), .int (nI nb), .int (nI na), .int (nI s.1), .int (nI s.2.1), .int (nI s.2.2), .int (nI tm), .int (nI sr), .ref aH, .ref aW, .ref aD, .ref aK, .ref aM, .int (nI z0), .int (nI z1), .int (nI z2), .int (nI fd), .int (nI sn), .ref aG, .int (nI sd), .int (nI kS), .int (nI ks.1), .int (nI ks.2.1), .int (nI ks.2.2), .int (nI ktm), .int (nI ksn), .ref bH, .ref bW, .ref bK, .ref bM, .ref bG, .long hs]))] : va_W)) (show (st.1 + 0) = ((hear kk mm st).1) from by simp only [hear, rise, offn, thk]; repeat' (first | omega | split)) (show (st.2.1 + 2) = ((hear kk mm st).2.1) from by simp only [hear, rise, offn, thk]; repeat' (first | omega | split)) (show st.2.2 = ((hear kk mm st).2.2) from by simp only [hear, rise, offn, thk]; repeat' (first | omega | split))) rfl dX10_askBy_144
        · skip
          refine j_bipush (pc := 129) hM (v := nI 9) dX10_askBy_129 (by decide) ?_
          refine j_goto (pc := 131) hM 141 dX10_askBy_131 (by decide) ?_
          refine j_put (pc := 141) hM fp_X10_120 [(o, .inr (10, [.ref aP, .int (nI pn), .int (nI en), .int (nI ne), .int (nI ns), .int (nI nb), .int (nI na), .int (nI s.1), .int (nI s.2.1), .int (nI s.2.2), .int (nI tm), .int (nI sr), .ref aH, .ref aW, .ref aD, .ref aK, .ref aM, .int (nI (st.1 + 0)), .int (nI 9), .int (nI st.2.2), .int (nI fd), .int (nI sn), .ref aG, .int (nI sd), .int (nI kS), .int (nI ks.1), .int (nI ks.2.1), .int (nI ks.2.2), .int (nI ktm), .int (nI ksn), .ref bH, .ref bW, .ref bK, .ref bM, .ref bG, .long hs]))] 0 rfl (lb rfl) rfl rfl rfl dX10_askBy_141 ?_
          exact hret () _ _ _ trivial (eq3 (fun (z0 : Nat) (z1 : Nat) (z2 : Nat) => ([(o, .inr (10, [.ref aP, .int (nI pn), .int (nI en), .int (nI ne), .int (nI ns), .int (nI nb), .int (nI na), .int (nI s.1), .int (nI s.2.1), .int (nI s.2.2), .int (nI tm), .int (nI sr), .ref aH, .ref aW, .ref aD, .ref aK, .ref aM, .int (nI z0), .int (nI z1), .int (nI z2), .int (nI fd), .int (nI sn), .ref aG, .int (nI sd), .int (nI kS), .int (nI ks.1), .int (nI ks.2.1), .int (nI ks.2.2), .int (nI ktm), .int (nI ksn), .ref bH, .ref bW, .ref bK, .ref bM, .ref bG, .long hs]))] : va_W)) (show (st.1 + 0) = ((hear kk mm st).1) from by simp only [hear, rise, offn, thk]; repeat' (first | omega | split)) (show 9 = ((hear kk mm st).2.1) from by simp only [hear, rise, offn, thk]; repeat' (first | omega | split)) (show st.2.2 = ((hear kk mm st).2.2) from by simp only [hear, rise, offn, thk]; repeat' (first | omega | split))) rfl dX10_askBy_144
      · skip
        refine j_bipush (pc := 102) hM (v := nI 20) dX10_askBy_102 (by decide) ?_
        refine j_goto (pc := 104) hM 113 dX10_askBy_104 (by decide) ?_
        refine j_put (pc := 113) hM fp_X10_117 [(o, .inr (10, [.ref aP, .int (nI pn), .int (nI en), .int (nI ne), .int (nI ns), .int (nI nb), .int (nI na), .int (nI s.1), .int (nI s.2.1), .int (nI s.2.2), .int (nI tm), .int (nI sr), .ref aH, .ref aW, .ref aD, .ref aK, .ref aM, .int (nI 20), .int (nI st.2.1), .int (nI st.2.2), .int (nI fd), .int (nI sn), .ref aG, .int (nI sd), .int (nI kS), .int (nI ks.1), .int (nI ks.2.1), .int (nI ks.2.2), .int (nI ktm), .int (nI ksn), .ref bH, .ref bW, .ref bK, .ref bM, .ref bG, .long hs]))] 0 rfl (lb rfl) rfl rfl rfl dX10_askBy_113 ?_
        refine j_aload_n (pc := 116) hM dX10_askBy_116 rfl 2 rfl ?_
        refine j_aload_n (pc := 117) hM dX10_askBy_117 rfl 2 rfl ?_
        refine j_get (pc := 118) hM fd_X10_120 0 rfl rfl dX10_askBy_118 ?_
        refine j_iload (pc := 121) hM dX10_askBy_121 0 rfl ?_
        refine j_iadd (pc := 123) hM (v := nI (st.2.1 + 2)) dX10_askBy_123 (nI_add _ _) ?_
        refine j_bipush (pc := 124) hM (v := nI 9) dX10_askBy_124 (by decide) ?_
        refine j_icmp_le (pc := 126) hM 134 dX10_askBy_126 (by decide) (cLE (by omega) (by omega)) (fun c126 => ?_) (fun c126 => ?_)
        · skip
          refine j_aload_n (pc := 134) hM dX10_askBy_134 rfl 2 rfl ?_
          refine j_get (pc := 135) hM fd_X10_120 0 rfl rfl dX10_askBy_135 ?_
          refine j_iload (pc := 138) hM dX10_askBy_138 0 rfl ?_
          refine j_iadd (pc := 140) hM (v := nI (st.2.1 + 2)) dX10_askBy_140 (nI_add _ _) ?_
          refine j_put (pc := 141) hM fp_X10_120 [(o, .inr (10, [.ref aP, .int (nI pn), .int (nI en), .int (nI ne), .int (nI ns), .int (nI nb), .int (nI na), .int (nI s.1), .int (nI s.2.1), .int (nI s.2.2), .int (nI tm), .int (nI sr), .ref aH, .ref aW, .ref aD, .ref aK, .ref aM, .int (nI 20), .int (nI (st.2.1 + 2)), .int (nI st.2.2), .int (nI fd), .int (nI sn), .ref aG, .int (nI sd), .int (nI kS), .int (nI ks.1), .int (nI ks.2.1), .int (nI ks.2.2), .int (nI ktm), .int (nI ksn), .ref bH, .ref bW, .ref bK, .ref bM, .ref bG, .long hs]))] 0 rfl (lb rfl) rfl rfl rfl dX10_askBy_141 ?_
          exact hret () _ _ _ trivial (eq3 (fun (z0 : Nat) (z1 : Nat) (z2 : Nat) => ([(o, .inr (10, [.ref aP, .int (nI pn), .int (nI en), .int (nI ne), .int (nI ns), .int (nI nb), .int (nI na), .int (nI s.1), .int (nI s.2.1), .int (nI s.2.2), .int (nI tm), .int (nI sr), .ref aH, .ref aW, .ref aD, .ref aK, .ref aM, .int (nI z0), .int (nI z1), .int (nI z2), .int (nI fd), .int (nI sn), .ref aG, .int (nI sd), .int (nI kS), .int (nI ks.1), .int (nI ks.2.1), .int (nI ks.2.2), .int (nI ktm), .int (nI ksn), .ref bH, .ref bW, .ref bK, .ref bM, .ref bG, .long hs]))] : va_W)) (show 20 = ((hear kk mm st).1) from by simp only [hear, rise, offn, thk]; repeat' (first | omega | split)) (show (st.2.1 + 2) = ((hear kk mm st).2.1) from by simp only [hear, rise, offn, thk]; repeat' (first | omega | split)) (show st.2.2 = ((hear kk mm st).2.2) from by simp only [hear, rise, offn, thk]; repeat' (first | omega | split))) rfl dX10_askBy_144
        · skip
          refine j_bipush (pc := 129) hM (v := nI 9) dX10_askBy_129 (by decide) ?_
          refine j_goto (pc := 131) hM 141 dX10_askBy_131 (by decide) ?_
          refine j_put (pc := 141) hM fp_X10_120 [(o, .inr (10, [.ref aP, .int (nI pn), .int (nI en), .int (nI ne), .int (nI ns), .int (nI nb), .int (nI na), .int (nI s.1), .int (nI s.2.1), .int (nI s.2.2), .int (nI tm), .int (nI sr), .ref aH, .ref aW, .ref aD, .ref aK, .ref aM, .int (nI 20), .int (nI 9), .int (nI st.2.2), .int (nI fd), .int (nI sn), .ref aG, .int (nI sd), .int (nI kS), .int (nI ks.1), .int (nI ks.2.1), .int (nI ks.2.2), .int (nI ktm), .int (nI ksn), .ref bH, .ref bW, .ref bK, .ref bM, .ref bG, .long hs]))] 0 rfl (lb rfl) rfl rfl rfl dX10_askBy_141 ?_
          exact hret () _ _ _ trivial (eq3 (fun (z0 : Nat) (z1 : Nat) (z2 : Nat) => ([(o, .inr (10, [.ref aP, .int (nI pn), .int (nI en), .int (nI ne), .int (nI ns), .int (nI nb), .int (nI na), .int (nI s.1), .int (nI s.2.1), .int (nI s.2.2), .int (nI tm), .int (nI sr), .ref aH, .ref aW, .ref aD, .ref aK, .ref aM, .int (nI z0), .int (nI z1), .int (nI z2), .int (nI fd), .int (nI sn), .ref aG, .int (nI sd), .int (nI kS), .int (nI ks.1), .int (nI ks.2.1), .int (nI ks.2.2), .int (nI ktm), .int (nI ksn), .ref bH, .ref bW, .ref bK, .ref bM, .ref bG, .long hs]))] : va_W)) (show 20 = ((hear kk mm st).1) from by simp only [hear, rise, offn, thk]; repeat' (first | omega | split)) (show 9 = ((hear kk mm st).2.1) from by simp only [hear, rise, offn, thk]; repeat' (first | omega | split)) (show st.2.2 = ((hear kk mm st).2.2) from by simp only [hear, rise, offn, thk]; repeat' (first | omega | split))) rfl dX10_askBy_144
    · skip
      refine j_tsM (pc := 23) hM 90 dX10_askBy_23 (by omega) (by omega) (by decide) ?_
      refine j_aload_n (pc := 90) hM dX10_askBy_90 rfl 2 rfl ?_
      refine j_aload_n (pc := 91) hM dX10_askBy_91 rfl 2 rfl ?_
      refine j_get (pc := 92) hM fd_X10_117 0 rfl rfl dX10_askBy_92 ?_
      refine j_iload_n (pc := 95) hM dX10_askBy_95 rfl 1 rfl ?_
      refine j_iadd (pc := 96) hM (v := nI (st.1 + (mm - st.2.1))) dX10_askBy_96 (nI_add _ _) ?_
      refine j_bipush (pc := 97) hM (v := nI 20) dX10_askBy_97 (by decide) ?_
      refine j_icmp_le (pc := 99) hM 107 dX10_askBy_99 (by decide) (cLE (by omega) (by omega)) (fun c99 => ?_) (fun c99 => ?_)
      · skip
        refine j_aload_n (pc := 107) hM dX10_askBy_107 rfl 2 rfl ?_
        refine j_get (pc := 108) hM fd_X10_117 0 rfl rfl dX10_askBy_108 ?_
        refine j_iload_n (pc := 111) hM dX10_askBy_111 rfl 1 rfl ?_
        refine j_iadd (pc := 112) hM (v := nI (st.1 + (mm - st.2.1))) dX10_askBy_112 (nI_add _ _) ?_
        refine j_put (pc := 113) hM fp_X10_117 [(o, .inr (10, [.ref aP, .int (nI pn), .int (nI en), .int (nI ne), .int (nI ns), .int (nI nb), .int (nI na), .int (nI s.1), .int (nI s.2.1), .int (nI s.2.2), .int (nI tm), .int (nI sr), .ref aH, .ref aW, .ref aD, .ref aK, .ref aM, .int (nI (st.1 + (mm - st.2.1))), .int (nI st.2.1), .int (nI st.2.2), .int (nI fd), .int (nI sn), .ref aG, .int (nI sd), .int (nI kS), .int (nI ks.1), .int (nI ks.2.1), .int (nI ks.2.2), .int (nI ktm), .int (nI ksn), .ref bH, .ref bW, .ref bK, .ref bM, .ref bG, .long hs]))] 0 rfl (lb rfl) rfl rfl rfl dX10_askBy_113 ?_
        refine j_aload_n (pc := 116) hM dX10_askBy_116 rfl 2 rfl ?_
        refine j_aload_n (pc := 117) hM dX10_askBy_117 rfl 2 rfl ?_
        refine j_get (pc := 118) hM fd_X10_120 0 rfl rfl dX10_askBy_118 ?_
        refine j_iload (pc := 121) hM dX10_askBy_121 0 rfl ?_
        refine j_iadd (pc := 123) hM (v := nI (st.2.1 + 0)) dX10_askBy_123 (nI_add _ _) ?_
        refine j_bipush (pc := 124) hM (v := nI 9) dX10_askBy_124 (by decide) ?_
        refine j_icmp_le (pc := 126) hM 134 dX10_askBy_126 (by decide) (cLE (by omega) (by omega)) (fun c126 => ?_) (fun c126 => ?_)
        · skip
          refine j_aload_n (pc := 134) hM dX10_askBy_134 rfl 2 rfl ?_
          refine j_get (pc := 135) hM fd_X10_120 0 rfl rfl dX10_askBy_135 ?_
          refine j_iload (pc := 138) hM dX10_askBy_138 0 rfl ?_
          refine j_iadd (pc := 140) hM (v := nI (st.2.1 + 0)) dX10_askBy_140 (nI_add _ _) ?_
          refine j_put (pc := 141) hM fp_X10_120 [(o, .inr (10, [.ref aP, .int (nI pn), .int (nI en), .int (nI ne), .int (nI ns), .int (nI nb), .int (nI na), .int (nI s.1), .int (nI s.2.1), .int (nI s.2.2), .int (nI tm), .int (nI sr), .ref aH, .ref aW, .ref aD, .ref aK, .ref aM, .int (nI (st.1 + (mm - st.2.1))), .int (nI (st.2.1 + 0)), .int (nI st.2.2), .int (nI fd), .int (nI sn), .ref aG, .int (nI sd), .int (nI kS), .int (nI ks.1), .int (nI ks.2.1), .int (nI ks.2.2), .int (nI ktm), .int (nI ksn), .ref bH, .ref bW, .ref bK, .ref bM, .ref bG, .long hs]))] 0 rfl (lb rfl) rfl rfl rfl dX10_askBy_141 ?_
          exact hret () _ _ _ trivial (eq3 (fun (z0 : Nat) (z1 : Nat) (z2 : Nat) => ([(o, .inr (10, [.ref aP, .int (nI pn), .int (nI en), .int (nI ne), .int (nI ns), .int (nI nb), .int (nI na), .int (nI s.1), .int (nI s.2.1), .int (nI s.2.2), .int (nI tm), .int (nI sr), .ref aH, .ref aW, .ref aD, .ref aK, .ref aM, .int (nI z0), .int (nI z1), .int (nI z2), .int (nI fd), .int (nI sn), .ref aG, .int (nI sd), .int (nI kS), .int (nI ks.1), .int (nI ks.2.1), .int (nI ks.2.2), .int (nI ktm), .int (nI ksn), .ref bH, .ref bW, .ref bK, .ref bM, .ref bG, .long hs]))] : va_W)) (show (st.1 + (mm - st.2.1)) = ((hear kk mm st).1) from by simp only [hear, rise, offn, thk]; repeat' (first | omega | split)) (show (st.2.1 + 0) = ((hear kk mm st).2.1) from by simp only [hear, rise, offn, thk]; repeat' (first | omega | split)) (show st.2.2 = ((hear kk mm st).2.2) from by simp only [hear, rise, offn, thk]; repeat' (first | omega | split))) rfl dX10_askBy_144
        · skip
          refine j_bipush (pc := 129) hM (v := nI 9) dX10_askBy_129 (by decide) ?_
          refine j_goto (pc := 131) hM 141 dX10_askBy_131 (by decide) ?_
          refine j_put (pc := 141) hM fp_X10_120 [(o, .inr (10, [.ref aP, .int (nI pn), .int (nI en), .int (nI ne), .int (nI ns), .int (nI nb), .int (nI na), .int (nI s.1), .int (nI s.2.1), .int (nI s.2.2), .int (nI tm), .int (nI sr), .ref aH, .ref aW, .ref aD, .ref aK, .ref aM, .int (nI (st.1 + (mm - st.2.1))), .int (nI 9), .int (nI st.2.2), .int (nI fd), .int (nI sn), .ref aG, .int (nI sd), .int (nI kS), .int (nI ks.1), .int (nI ks.2.1), .int (nI ks.2.2), .int (nI ktm), .int (nI ksn), .ref bH, .ref bW, .ref bK, .ref bM, .ref bG, .long hs]))] 0 rfl (lb rfl) rfl rfl rfl dX10_askBy_141 ?_
          exact hret () _ _ _ trivial (eq3 (fun (z0 : Nat) (z1 : Nat) (z2 : Nat) => ([(o, .inr (10, [.ref aP, .int (nI pn), .int (nI en), .int (nI ne), .int (nI ns), .int (nI nb), .int (nI na), .int (nI s.1), .int (nI s.2.1), .int (nI s.2.2), .int (nI tm), .int (nI sr), .ref aH, .ref aW, .ref aD, .ref aK, .ref aM, .int (nI z0), .int (nI z1), .int (nI z2), .int (nI fd), .int (nI sn), .ref aG, .int (nI sd), .int (nI kS), .int (nI ks.1), .int (nI ks.2.1), .int (nI ks.2.2), .int (nI ktm), .int (nI ksn), .ref bH, .ref bW, .ref bK, .ref bM, .ref bG, .long hs]))] : va_W)) (show (st.1 + (mm - st.2.1)) = ((hear kk mm st).1) from by simp only [hear, rise, offn, thk]; repeat' (first | omega | split)) (show 9 = ((hear kk mm st).2.1) from by simp only [hear, rise, offn, thk]; repeat' (first | omega | split)) (show st.2.2 = ((hear kk mm st).2.2) from by simp only [hear, rise, offn, thk]; repeat' (first | omega | split))) rfl dX10_askBy_144
      · skip
        refine j_bipush (pc := 102) hM (v := nI 20) dX10_askBy_102 (by decide) ?_
        refine j_goto (pc := 104) hM 113 dX10_askBy_104 (by decide) ?_
        refine j_put (pc := 113) hM fp_X10_117 [(o, .inr (10, [.ref aP, .int (nI pn), .int (nI en), .int (nI ne), .int (nI ns), .int (nI nb), .int (nI na), .int (nI s.1), .int (nI s.2.1), .int (nI s.2.2), .int (nI tm), .int (nI sr), .ref aH, .ref aW, .ref aD, .ref aK, .ref aM, .int (nI 20), .int (nI st.2.1), .int (nI st.2.2), .int (nI fd), .int (nI sn), .ref aG, .int (nI sd), .int (nI kS), .int (nI ks.1), .int (nI ks.2.1), .int (nI ks.2.2), .int (nI ktm), .int (nI ksn), .ref bH, .ref bW, .ref bK, .ref bM, .ref bG, .long hs]))] 0 rfl (lb rfl) rfl rfl rfl dX10_askBy_113 ?_
        refine j_aload_n (pc := 116) hM dX10_askBy_116 rfl 2 rfl ?_
        refine j_aload_n (pc := 117) hM dX10_askBy_117 rfl 2 rfl ?_
        refine j_get (pc := 118) hM fd_X10_120 0 rfl rfl dX10_askBy_118 ?_
        refine j_iload (pc := 121) hM dX10_askBy_121 0 rfl ?_
        refine j_iadd (pc := 123) hM (v := nI (st.2.1 + 0)) dX10_askBy_123 (nI_add _ _) ?_
        refine j_bipush (pc := 124) hM (v := nI 9) dX10_askBy_124 (by decide) ?_
        refine j_icmp_le (pc := 126) hM 134 dX10_askBy_126 (by decide) (cLE (by omega) (by omega)) (fun c126 => ?_) (fun c126 => ?_)
        · skip
          refine j_aload_n (pc := 134) hM dX10_askBy_134 rfl 2 rfl ?_
          refine j_get (pc := 135) hM fd_X10_120 0 rfl rfl dX10_askBy_135 ?_
          refine j_iload (pc := 138) hM dX10_askBy_138 0 rfl ?_
          refine j_iadd (pc := 140) hM (v := nI (st.2.1 + 0)) dX10_askBy_140 (nI_add _ _) ?_
          refine j_put (pc := 141) hM fp_X10_120 [(o, .inr (10, [.ref aP, .int (nI pn), .int (nI en), .int (nI ne), .int (nI ns), .int (nI nb), .int (nI na), .int (nI s.1), .int (nI s.2.1), .int (nI s.2.2), .int (nI tm), .int (nI sr), .ref aH, .ref aW, .ref aD, .ref aK, .ref aM, .int (nI 20), .int (nI (st.2.1 + 0)), .int (nI st.2.2), .int (nI fd), .int (nI sn), .ref aG, .int (nI sd), .int (nI kS), .int (nI ks.1), .int (nI ks.2.1), .int (nI ks.2.2), .int (nI ktm), .int (nI ksn), .ref bH, .ref bW, .ref bK, .ref bM, .ref bG, .long hs]))] 0 rfl (lb rfl) rfl rfl rfl dX10_askBy_141 ?_
          exact hret () _ _ _ trivial (eq3 (fun (z0 : Nat) (z1 : Nat) (z2 : Nat) => ([(o, .inr (10, [.ref aP, .int (nI pn), .int (nI en), .int (nI ne), .int (nI ns), .int (nI nb), .int (nI na), .int (nI s.1), .int (nI s.2.1), .int (nI s.2.2), .int (nI tm), .int (nI sr), .ref aH, .ref aW, .ref aD, .ref aK, .ref aM, .int (nI z0), .int (nI z1), .int (nI z2), .int (nI fd), .int (nI sn), .ref aG, .int (nI sd), .int (nI kS), .int (nI ks.1), .int (nI ks.2.1), .int (nI ks.2.2), .int (nI ktm), .int (nI ksn), .ref bH, .ref bW, .ref bK, .ref bM, .ref bG, .long hs]))] : va_W)) (show 20 = ((hear kk mm st).1) from by simp only [hear, rise, offn, thk]; repeat' (first | omega | split)) (show (st.2.1 + 0) = ((hear kk mm st).2.1) from by simp only [hear, rise, offn, thk]; repeat' (first | omega | split)) (show st.2.2 = ((hear kk mm st).2.2) from by simp only [hear, rise, offn, thk]; repeat' (first | omega | split))) rfl dX10_askBy_144
        · skip
          refine j_bipush (pc := 129) hM (v := nI 9) dX10_askBy_129 (by decide) ?_
          refine j_goto (pc := 131) hM 141 dX10_askBy_131 (by decide) ?_
          refine j_put (pc := 141) hM fp_X10_120 [(o, .inr (10, [.ref aP, .int (nI pn), .int (nI en), .int (nI ne), .int (nI ns), .int (nI nb), .int (nI na), .int (nI s.1), .int (nI s.2.1), .int (nI s.2.2), .int (nI tm), .int (nI sr), .ref aH, .ref aW, .ref aD, .ref aK, .ref aM, .int (nI 20), .int (nI 9), .int (nI st.2.2), .int (nI fd), .int (nI sn), .ref aG, .int (nI sd), .int (nI kS), .int (nI ks.1), .int (nI ks.2.1), .int (nI ks.2.2), .int (nI ktm), .int (nI ksn), .ref bH, .ref bW, .ref bK, .ref bM, .ref bG, .long hs]))] 0 rfl (lb rfl) rfl rfl rfl dX10_askBy_141 ?_
          exact hret () _ _ _ trivial (eq3 (fun (z0 : Nat) (z1 : Nat) (z2 : Nat) => ([(o, .inr (10, [.ref aP, .int (nI pn), .int (nI en), .int (nI ne), .int (nI ns), .int (nI nb), .int (nI na), .int (nI s.1), .int (nI s.2.1), .int (nI s.2.2), .int (nI tm), .int (nI sr), .ref aH, .ref aW, .ref aD, .ref aK, .ref aM, .int (nI z0), .int (nI z1), .int (nI z2), .int (nI fd), .int (nI sn), .ref aG, .int (nI sd), .int (nI kS), .int (nI ks.1), .int (nI ks.2.1), .int (nI ks.2.2), .int (nI ktm), .int (nI ksn), .ref bH, .ref bW, .ref bK, .ref bM, .ref bG, .long hs]))] : va_W)) (show 20 = ((hear kk mm st).1) from by simp only [hear, rise, offn, thk]; repeat' (first | omega | split)) (show 9 = ((hear kk mm st).2.1) from by simp only [hear, rise, offn, thk]; repeat' (first | omega | split)) (show st.2.2 = ((hear kk mm st).2.2) from by simp only [hear, rise, offn, thk]; repeat' (first | omega | split))) rfl dX10_askBy_144
set_option maxHeartbeats 4000000 in
set_option maxRecDepth 100000 in
theorem c_X10_askThen (l : Launch) (D : va_G) (cy : ClassId) (o : Nat) (aP : Nat) (aH : Nat) (aW : Nat) (aD : Nat) (aK : Nat) (aM : Nat) (aG : Nat) (bH : Nat) (bW : Nat) (bK : Nat) (bM : Nat) (bG : Nat) (pn : Nat) (en : Nat) (ne : Nat) (ns : Nat) (nb : Nat) (na : Nat) (tm : Nat) (sr : Nat) (fd : Nat) (sn : Nat) (sd : Nat) (kS : Nat) (ktm : Nat) (ksn : Nat) (s : S3) (st : S3) (ks : S3) (hs : Int64) (k : Nat → Nat) (m : Nat → Nat) (a : Nat) (okk : okK na k m) (ost : okS st) (ha : a < na) : Ct (σ := Unit) l D cy yX10_askThen cX10_askThen 2 none { frames := 1, cells := 0, slots := 0, locals := 24 } [.ref o, .int (nI a)] [(o, .inr (10, [.ref aP, .int (nI pn), .int (nI en), .int (nI ne), .int (nI ns), .int (nI nb), .int (nI na), .int (nI s.1), .int (nI s.2.1), .int (nI s.2.2), .int (nI tm), .int (nI sr), .ref aH, .ref aW, .ref aD, .ref aK, .ref aM, .int (nI st.1), .int (nI st.2.1), .int (nI st.2.2), .int (nI fd), .int (nI sn), .ref aG, .int (nI sd), .int (nI kS), .int (nI ks.1), .int (nI ks.2.1), .int (nI ks.2.2), .int (nI ktm), .int (nI ksn), .ref bH, .ref bW, .ref bK, .ref bM, .ref bG, .long hs])), (aK, arC cy 5 k), (aM, arC cy 5 m)] (fun _ => True) (fun _ => none) (fun _ => [(o, .inr (10, [.ref aP, .int (nI pn), .int (nI en), .int (nI ne), .int (nI ns), .int (nI nb), .int (nI na), .int (nI s.1), .int (nI s.2.1), .int (nI s.2.2), .int (nI tm), .int (nI sr), .ref aH, .ref aW, .ref aD, .ref aK, .ref aM, .int (nI ((hear (k a) (m a) st).1)), .int (nI ((hear (k a) (m a) st).2.1)), .int (nI ((hear (k a) (m a) st).2.2)), .int (nI fd), .int (nI sn), .ref aG, .int (nI sd), .int (nI kS), .int (nI ks.1), .int (nI ks.2.1), .int (nI ks.2.2), .int (nI ktm), .int (nI ksn), .ref bH, .ref bW, .ref bK, .ref bM, .ref bG, .long hs])), (aK, arC cy 5 k), (aM, arC cy 5 m)]) := by
  refine Ct_ofV (by decide) (lb rfl) [(0, .ref o), (1, .int (nI a))] rfl (fun G hM hret => ?_)
  obtain ⟨zk, zk2, zm⟩ := okk
  refine j_aload_n (pc := 0) hM dX10_askThen_0 rfl 0 rfl ?_
  refine j_aload_n (pc := 1) hM dX10_askThen_1 rfl 0 rfl ?_
  refine j_get (pc := 2) hM fd_X10_22 0 rfl rfl dX10_askThen_2 ?_
  refine j_iload_n (pc := 5) hM dX10_askThen_5 rfl 1 rfl ?_
  refine j_ldN (pc := 6) hM (v := k a) 1 rfl (by omega) (by decide) rfl dX10_askThen_6 ?_
  have b6 := zk2 a (by omega)
  refine j_aload_n (pc := 7) hM dX10_askThen_7 rfl 0 rfl ?_
  refine j_get (pc := 8) hM fd_X10_25 0 rfl rfl dX10_askThen_8 ?_
  refine j_iload_n (pc := 11) hM dX10_askThen_11 rfl 1 rfl ?_
  refine j_ldN (pc := 12) hM (v := m a) 2 rfl (by omega) (by decide) rfl dX10_askThen_12 ?_
  have b12 := zm a (by omega)
  refine j_callV (pc := 13) hM cv_X10_126 (As := [.int (nI (k a)), .int (nI (m a))]) (rest := []) (b := o) (c_X10_askBy l D cy o aP aH aW aD aK aM aG bH bW bK bM bG pn en ne ns nb na tm sr fd sn sd kS ktm ksn s st ks hs (k a) (m a) ost (by first | assumption | omega) (by first | assumption | omega)) ⟨lb rfl, lb rfl, lb rfl, lb rfl⟩ rfl 0 rfl rfl [0] [1, 2] [2, 0, 1] [(aK, arC cy 5 k), (aM, arC cy 5 m)] (fun _ => [(o, .inr (10, [.ref aP, .int (nI pn), .int (nI en), .int (nI ne), .int (nI ns), .int (nI nb), .int (nI na), .int (nI s.1), .int (nI s.2.1), .int (nI s.2.2), .int (nI tm), .int (nI sr), .ref aH, .ref aW, .ref aD, .ref aK, .ref aM, .int (nI ((hear (k a) (m a) st).1)), .int (nI ((hear (k a) (m a) st).2.1)), .int (nI ((hear (k a) (m a) st).2.2)), .int (nI fd), .int (nI sn), .ref aG, .int (nI sd), .int (nI kS), .int (nI ks.1), .int (nI ks.2.1), .int (nI ks.2.2), .int (nI ktm), .int (nI ksn), .ref bH, .ref bW, .ref bK, .ref bM, .ref bG, .long hs])), (aK, arC cy 5 k), (aM, arC cy 5 m)]) rfl (by decide) rfl (by decide) (by decide) (by decide) (fun _ => rfl) (lb rfl) dX10_askThen_13 hM.two (fun _ _ => ?_)
  show G [(o, .inr (10, [.ref aP, .int (nI pn), .int (nI en), .int (nI ne), .int (nI ns), .int (nI nb), .int (nI na), .int (nI s.1), .int (nI s.2.1), .int (nI s.2.2), .int (nI tm), .int (nI sr), .ref aH, .ref aW, .ref aD, .ref aK, .ref aM, .int (nI ((hear (k a) (m a) st).1)), .int (nI ((hear (k a) (m a) st).2.1)), .int (nI ((hear (k a) (m a) st).2.2)), .int (nI fd), .int (nI sn), .ref aG, .int (nI sd), .int (nI kS), .int (nI ks.1), .int (nI ks.2.1), .int (nI ks.2.2), .int (nI ktm), .int (nI ksn), .ref bH, .ref bW, .ref bK, .ref bM, .ref bG, .long hs])), (aK, arC cy 5 k), (aM, arC cy 5 m)] [(0, .ref o), (1, .int (nI a))] 16 []
  exact hret () _ _ _ trivial rfl rfl dX10_askThen_16
set_option maxHeartbeats 4000000 in
set_option maxRecDepth 100000 in
theorem c_X10_thankThen (l : Launch) (D : va_G) (cy : ClassId) (o : Nat) (aP : Nat) (aH : Nat) (aW : Nat) (aD : Nat) (aK : Nat) (aM : Nat) (aG : Nat) (bH : Nat) (bW : Nat) (bK : Nat) (bM : Nat) (bG : Nat) (pn : Nat) (en : Nat) (ne : Nat) (ns : Nat) (nb : Nat) (na : Nat) (tm : Nat) (sr : Nat) (fd : Nat) (sn : Nat) (sd : Nat) (kS : Nat) (ktm : Nat) (ksn : Nat) (s : S3) (st : S3) (ks : S3) (hs : Int64) (ost : okS st) : Ct (σ := Unit) l D cy yX10_thankThen cX10_thankThen 1 none { frames := 0, cells := 0, slots := 0, locals := 0 } [.ref o] [(o, .inr (10, [.ref aP, .int (nI pn), .int (nI en), .int (nI ne), .int (nI ns), .int (nI nb), .int (nI na), .int (nI s.1), .int (nI s.2.1), .int (nI s.2.2), .int (nI tm), .int (nI sr), .ref aH, .ref aW, .ref aD, .ref aK, .ref aM, .int (nI st.1), .int (nI st.2.1), .int (nI st.2.2), .int (nI fd), .int (nI sn), .ref aG, .int (nI sd), .int (nI kS), .int (nI ks.1), .int (nI ks.2.1), .int (nI ks.2.2), .int (nI ktm), .int (nI ksn), .ref bH, .ref bW, .ref bK, .ref bM, .ref bG, .long hs]))] (fun _ => True) (fun _ => none) (fun _ => [(o, .inr (10, [.ref aP, .int (nI pn), .int (nI en), .int (nI ne), .int (nI ns), .int (nI nb), .int (nI na), .int (nI s.1), .int (nI s.2.1), .int (nI s.2.2), .int (nI tm), .int (nI sr), .ref aH, .ref aW, .ref aD, .ref aK, .ref aM, .int (nI ((thk st).1)), .int (nI ((thk st).2.1)), .int (nI ((thk st).2.2)), .int (nI fd), .int (nI sn), .ref aG, .int (nI sd), .int (nI kS), .int (nI ks.1), .int (nI ks.2.1), .int (nI ks.2.2), .int (nI ktm), .int (nI ksn), .ref bH, .ref bW, .ref bK, .ref bM, .ref bG, .long hs]))]) := by
  refine Ct_ofV (by decide) (lb rfl) [(0, .ref o)] rfl (fun G hM hret => ?_)
  obtain ⟨o1, o2, o3⟩ := ost
  refine j_aload_n (pc := 0) hM dX10_thankThen_0 rfl 0 rfl ?_
  refine j_get (pc := 1) hM fd_X10_123 0 rfl rfl dX10_thankThen_1 ?_
  refine j_if_ne (pc := 4) hM 29 dX10_thankThen_4 (by decide) (i0_eq (by omega)) (fun c4 => ?_) (fun c4 => ?_)
  · skip
    refine j_aload_n (pc := 29) hM dX10_thankThen_29 rfl 0 rfl ?_
    refine j_iconst (pc := 30) hM (v := nI 0) dX10_thankThen_30 (by decide) ?_
    refine j_put (pc := 31) hM fp_X10_123 [(o, .inr (10, [.ref aP, .int (nI pn), .int (nI en), .int (nI ne), .int (nI ns), .int (nI nb), .int (nI na), .int (nI s.1), .int (nI s.2.1), .int (nI s.2.2), .int (nI tm), .int (nI sr), .ref aH, .ref aW, .ref aD, .ref aK, .ref aM, .int (nI st.1), .int (nI st.2.1), .int (nI 0), .int (nI fd), .int (nI sn), .ref aG, .int (nI sd), .int (nI kS), .int (nI ks.1), .int (nI ks.2.1), .int (nI ks.2.2), .int (nI ktm), .int (nI ksn), .ref bH, .ref bW, .ref bK, .ref bM, .ref bG, .long hs]))] 0 rfl (lb rfl) rfl rfl rfl dX10_thankThen_31 ?_
    refine j_aload_n (pc := 34) hM dX10_thankThen_34 rfl 0 rfl ?_
    refine j_dup (pc := 35) hM dX10_thankThen_35 rfl ?_
    refine j_get (pc := 36) hM fd_X10_120 0 rfl rfl dX10_thankThen_36 ?_
    refine j_aload_n (pc := 39) hM dX10_thankThen_39 rfl 0 rfl ?_
    refine j_get (pc := 40) hM fd_X10_120 0 rfl rfl dX10_thankThen_40 ?_
    refine j_if_le (pc := 43) hM 50 dX10_thankThen_43 (by decide) (i0_le (by omega)) (fun c43 => ?_) (fun c43 => ?_)
    · skip
      refine j_iconst (pc := 50) hM (v := nI 0) dX10_thankThen_50 (by decide) ?_
      refine j_isub (pc := 51) hM (v := nI (st.2.1 - 0)) dX10_thankThen_51 (nsub (by omega)) ?_
      refine j_put (pc := 52) hM fp_X10_120 [(o, .inr (10, [.ref aP, .int (nI pn), .int (nI en), .int (nI ne), .int (nI ns), .int (nI nb), .int (nI na), .int (nI s.1), .int (nI s.2.1), .int (nI s.2.2), .int (nI tm), .int (nI sr), .ref aH, .ref aW, .ref aD, .ref aK, .ref aM, .int (nI st.1), .int (nI (st.2.1 - 0)), .int (nI 0), .int (nI fd), .int (nI sn), .ref aG, .int (nI sd), .int (nI kS), .int (nI ks.1), .int (nI ks.2.1), .int (nI ks.2.2), .int (nI ktm), .int (nI ksn), .ref bH, .ref bW, .ref bK, .ref bM, .ref bG, .long hs]))] 0 rfl (lb rfl) rfl rfl rfl dX10_thankThen_52 ?_
      exact hret () _ _ _ trivial (eq3 (fun (z0 : Nat) (z1 : Nat) (z2 : Nat) => ([(o, .inr (10, [.ref aP, .int (nI pn), .int (nI en), .int (nI ne), .int (nI ns), .int (nI nb), .int (nI na), .int (nI s.1), .int (nI s.2.1), .int (nI s.2.2), .int (nI tm), .int (nI sr), .ref aH, .ref aW, .ref aD, .ref aK, .ref aM, .int (nI z0), .int (nI z1), .int (nI z2), .int (nI fd), .int (nI sn), .ref aG, .int (nI sd), .int (nI kS), .int (nI ks.1), .int (nI ks.2.1), .int (nI ks.2.2), .int (nI ktm), .int (nI ksn), .ref bH, .ref bW, .ref bK, .ref bM, .ref bG, .long hs]))] : va_W)) (show st.1 = ((thk st).1) from by simp only [hear, rise, offn, thk]; repeat' (first | omega | split)) (show (st.2.1 - 0) = ((thk st).2.1) from by simp only [hear, rise, offn, thk]; repeat' (first | omega | split)) (show 0 = ((thk st).2.2) from by simp only [hear, rise, offn, thk]; repeat' (first | omega | split))) rfl dX10_thankThen_55
    · skip
      refine j_iconst (pc := 46) hM (v := nI 1) dX10_thankThen_46 (by decide) ?_
      refine j_goto (pc := 47) hM 51 dX10_thankThen_47 (by decide) ?_
      refine j_isub (pc := 51) hM (v := nI (st.2.1 - 1)) dX10_thankThen_51 (nsub (by omega)) ?_
      refine j_put (pc := 52) hM fp_X10_120 [(o, .inr (10, [.ref aP, .int (nI pn), .int (nI en), .int (nI ne), .int (nI ns), .int (nI nb), .int (nI na), .int (nI s.1), .int (nI s.2.1), .int (nI s.2.2), .int (nI tm), .int (nI sr), .ref aH, .ref aW, .ref aD, .ref aK, .ref aM, .int (nI st.1), .int (nI (st.2.1 - 1)), .int (nI 0), .int (nI fd), .int (nI sn), .ref aG, .int (nI sd), .int (nI kS), .int (nI ks.1), .int (nI ks.2.1), .int (nI ks.2.2), .int (nI ktm), .int (nI ksn), .ref bH, .ref bW, .ref bK, .ref bM, .ref bG, .long hs]))] 0 rfl (lb rfl) rfl rfl rfl dX10_thankThen_52 ?_
      exact hret () _ _ _ trivial (eq3 (fun (z0 : Nat) (z1 : Nat) (z2 : Nat) => ([(o, .inr (10, [.ref aP, .int (nI pn), .int (nI en), .int (nI ne), .int (nI ns), .int (nI nb), .int (nI na), .int (nI s.1), .int (nI s.2.1), .int (nI s.2.2), .int (nI tm), .int (nI sr), .ref aH, .ref aW, .ref aD, .ref aK, .ref aM, .int (nI z0), .int (nI z1), .int (nI z2), .int (nI fd), .int (nI sn), .ref aG, .int (nI sd), .int (nI kS), .int (nI ks.1), .int (nI ks.2.1), .int (nI ks.2.2), .int (nI ktm), .int (nI ksn), .ref bH, .ref bW, .ref bK, .ref bM, .ref bG, .long hs]))] : va_W)) (show st.1 = ((thk st).1) from by simp only [hear, rise, offn, thk]; repeat' (first | omega | split)) (show (st.2.1 - 1) = ((thk st).2.1) from by simp only [hear, rise, offn, thk]; repeat' (first | omega | split)) (show 0 = ((thk st).2.2) from by simp only [hear, rise, offn, thk]; repeat' (first | omega | split))) rfl dX10_thankThen_55
  · skip
    refine j_aload_n (pc := 7) hM dX10_thankThen_7 rfl 0 rfl ?_
    refine j_aload_n (pc := 8) hM dX10_thankThen_8 rfl 0 rfl ?_
    refine j_get (pc := 9) hM fd_X10_117 0 rfl rfl dX10_thankThen_9 ?_
    refine j_iconst (pc := 12) hM (v := nI 3) dX10_thankThen_12 (by decide) ?_
    refine j_icmp_le (pc := 13) hM 25 dX10_thankThen_13 (by decide) (cLE (by omega) (by omega)) (fun c13 => ?_) (fun c13 => ?_)
    · skip
      refine j_iconst (pc := 25) hM (v := nI 0) dX10_thankThen_25 (by decide) ?_
      refine j_put (pc := 26) hM fp_X10_117 [(o, .inr (10, [.ref aP, .int (nI pn), .int (nI en), .int (nI ne), .int (nI ns), .int (nI nb), .int (nI na), .int (nI s.1), .int (nI s.2.1), .int (nI s.2.2), .int (nI tm), .int (nI sr), .ref aH, .ref aW, .ref aD, .ref aK, .ref aM, .int (nI 0), .int (nI st.2.1), .int (nI st.2.2), .int (nI fd), .int (nI sn), .ref aG, .int (nI sd), .int (nI kS), .int (nI ks.1), .int (nI ks.2.1), .int (nI ks.2.2), .int (nI ktm), .int (nI ksn), .ref bH, .ref bW, .ref bK, .ref bM, .ref bG, .long hs]))] 0 rfl (lb rfl) rfl rfl rfl dX10_thankThen_26 ?_
      refine j_aload_n (pc := 29) hM dX10_thankThen_29 rfl 0 rfl ?_
      refine j_iconst (pc := 30) hM (v := nI 0) dX10_thankThen_30 (by decide) ?_
      refine j_put (pc := 31) hM fp_X10_123 [(o, .inr (10, [.ref aP, .int (nI pn), .int (nI en), .int (nI ne), .int (nI ns), .int (nI nb), .int (nI na), .int (nI s.1), .int (nI s.2.1), .int (nI s.2.2), .int (nI tm), .int (nI sr), .ref aH, .ref aW, .ref aD, .ref aK, .ref aM, .int (nI 0), .int (nI st.2.1), .int (nI 0), .int (nI fd), .int (nI sn), .ref aG, .int (nI sd), .int (nI kS), .int (nI ks.1), .int (nI ks.2.1), .int (nI ks.2.2), .int (nI ktm), .int (nI ksn), .ref bH, .ref bW, .ref bK, .ref bM, .ref bG, .long hs]))] 0 rfl (lb rfl) rfl rfl rfl dX10_thankThen_31 ?_
      refine j_aload_n (pc := 34) hM dX10_thankThen_34 rfl 0 rfl ?_
      refine j_dup (pc := 35) hM dX10_thankThen_35 rfl ?_
      refine j_get (pc := 36) hM fd_X10_120 0 rfl rfl dX10_thankThen_36 ?_
      refine j_aload_n (pc := 39) hM dX10_thankThen_39 rfl 0 rfl ?_
      refine j_get (pc := 40) hM fd_X10_120 0 rfl rfl dX10_thankThen_40 ?_
      refine j_if_le (pc := 43) hM 50 dX10_thankThen_43 (by decide) (i0_le (by omega)) (fun c43 => ?_) (fun c43 => ?_)
      · skip
        refine j_iconst (pc := 50) hM (v := nI 0) dX10_thankThen_50 (by decide) ?_
        refine j_isub (pc := 51) hM (v := nI (st.2.1 - 0)) dX10_thankThen_51 (nsub (by omega)) ?_
        refine j_put (pc := 52) hM fp_X10_120 [(o, .inr (10, [.ref aP, .int (nI pn), .int (nI en), .int (nI ne), .int (nI ns), .int (nI nb), .int (nI na), .int (nI s.1), .int (nI s.2.1), .int (nI s.2.2), .int (nI tm), .int (nI sr), .ref aH, .ref aW, .ref aD, .ref aK, .ref aM, .int (nI 0), .int (nI (st.2.1 - 0)), .int (nI 0), .int (nI fd), .int (nI sn), .ref aG, .int (nI sd), .int (nI kS), .int (nI ks.1), .int (nI ks.2.1), .int (nI ks.2.2), .int (nI ktm), .int (nI ksn), .ref bH, .ref bW, .ref bK, .ref bM, .ref bG, .long hs]))] 0 rfl (lb rfl) rfl rfl rfl dX10_thankThen_52 ?_
        exact hret () _ _ _ trivial (eq3 (fun (z0 : Nat) (z1 : Nat) (z2 : Nat) => ([(o, .inr (10, [.ref aP, .int (nI pn), .int (nI en), .int (nI ne), .int (nI ns), .int (nI nb), .int (nI na), .int (nI s.1), .int (nI s.2.1), .int (nI s.2.2), .int (nI tm), .int (nI sr), .ref aH, .ref aW, .ref aD, .ref aK, .ref aM, .int (nI z0), .int (nI z1), .int (nI z2), .int (nI fd), .int (nI sn), .ref aG, .int (nI sd), .int (nI kS), .int (nI ks.1), .int (nI ks.2.1), .int (nI ks.2.2), .int (nI ktm), .int (nI ksn), .ref bH, .ref bW, .ref bK, .ref bM, .ref bG, .long hs]))] : va_W)) (show 0 = ((thk st).1) from by simp only [hear, rise, offn, thk]; repeat' (first | omega | split)) (show (st.2.1 - 0) = ((thk st).2.1) from by simp only [hear, rise, offn, thk]; repeat' (first | omega | split)) (show 0 = ((thk st).2.2) from by simp only [hear, rise, offn, thk]; repeat' (first | omega | split))) rfl dX10_thankThen_55
      · skip
        refine j_iconst (pc := 46) hM (v := nI 1) dX10_thankThen_46 (by decide) ?_
        refine j_goto (pc := 47) hM 51 dX10_thankThen_47 (by decide) ?_
        refine j_isub (pc := 51) hM (v := nI (st.2.1 - 1)) dX10_thankThen_51 (nsub (by omega)) ?_
        refine j_put (pc := 52) hM fp_X10_120 [(o, .inr (10, [.ref aP, .int (nI pn), .int (nI en), .int (nI ne), .int (nI ns), .int (nI nb), .int (nI na), .int (nI s.1), .int (nI s.2.1), .int (nI s.2.2), .int (nI tm), .int (nI sr), .ref aH, .ref aW, .ref aD, .ref aK, .ref aM, .int (nI 0), .int (nI (st.2.1 - 1)), .int (nI 0), .int (nI fd), .int (nI sn), .ref aG, .int (nI sd), .int (nI kS), .int (nI ks.1), .int (nI ks.2.1), .int (nI ks.2.2), .int (nI ktm), .int (nI ksn), .ref bH, .ref bW, .ref bK, .ref bM, .ref bG, .long hs]))] 0 rfl (lb rfl) rfl rfl rfl dX10_thankThen_52 ?_
        exact hret () _ _ _ trivial (eq3 (fun (z0 : Nat) (z1 : Nat) (z2 : Nat) => ([(o, .inr (10, [.ref aP, .int (nI pn), .int (nI en), .int (nI ne), .int (nI ns), .int (nI nb), .int (nI na), .int (nI s.1), .int (nI s.2.1), .int (nI s.2.2), .int (nI tm), .int (nI sr), .ref aH, .ref aW, .ref aD, .ref aK, .ref aM, .int (nI z0), .int (nI z1), .int (nI z2), .int (nI fd), .int (nI sn), .ref aG, .int (nI sd), .int (nI kS), .int (nI ks.1), .int (nI ks.2.1), .int (nI ks.2.2), .int (nI ktm), .int (nI ksn), .ref bH, .ref bW, .ref bK, .ref bM, .ref bG, .long hs]))] : va_W)) (show 0 = ((thk st).1) from by simp only [hear, rise, offn, thk]; repeat' (first | omega | split)) (show (st.2.1 - 1) = ((thk st).2.1) from by simp only [hear, rise, offn, thk]; repeat' (first | omega | split)) (show 0 = ((thk st).2.2) from by simp only [hear, rise, offn, thk]; repeat' (first | omega | split))) rfl dX10_thankThen_55
    · skip
      refine j_aload_n (pc := 16) hM dX10_thankThen_16 rfl 0 rfl ?_
      refine j_get (pc := 17) hM fd_X10_117 0 rfl rfl dX10_thankThen_17 ?_
      refine j_iconst (pc := 20) hM (v := nI 3) dX10_thankThen_20 (by decide) ?_
      refine j_isub (pc := 21) hM (v := nI (st.1 - 3)) dX10_thankThen_21 (nsub (by omega)) ?_
      refine j_goto (pc := 22) hM 26 dX10_thankThen_22 (by decide) ?_
      refine j_put (pc := 26) hM fp_X10_117 [(o, .inr (10, [.ref aP, .int (nI pn), .int (nI en), .int (nI ne), .int (nI ns), .int (nI nb), .int (nI na), .int (nI s.1), .int (nI s.2.1), .int (nI s.2.2), .int (nI tm), .int (nI sr), .ref aH, .ref aW, .ref aD, .ref aK, .ref aM, .int (nI (st.1 - 3)), .int (nI st.2.1), .int (nI st.2.2), .int (nI fd), .int (nI sn), .ref aG, .int (nI sd), .int (nI kS), .int (nI ks.1), .int (nI ks.2.1), .int (nI ks.2.2), .int (nI ktm), .int (nI ksn), .ref bH, .ref bW, .ref bK, .ref bM, .ref bG, .long hs]))] 0 rfl (lb rfl) rfl rfl rfl dX10_thankThen_26 ?_
      refine j_aload_n (pc := 29) hM dX10_thankThen_29 rfl 0 rfl ?_
      refine j_iconst (pc := 30) hM (v := nI 0) dX10_thankThen_30 (by decide) ?_
      refine j_put (pc := 31) hM fp_X10_123 [(o, .inr (10, [.ref aP, .int (nI pn), .int (nI en), .int (nI ne), .int (nI ns), .int (nI nb), .int (nI na), .int (nI s.1), .int (nI s.2.1), .int (nI s.2.2), .int (nI tm), .int (nI sr), .ref aH, .ref aW, .ref aD, .ref aK, .ref aM, .int (nI (st.1 - 3)), .int (nI st.2.1), .int (nI 0), .int (nI fd), .int (nI sn), .ref aG, .int (nI sd), .int (nI kS), .int (nI ks.1), .int (nI ks.2.1), .int (nI ks.2.2), .int (nI ktm), .int (nI ksn), .ref bH, .ref bW, .ref bK, .ref bM, .ref bG, .long hs]))] 0 rfl (lb rfl) rfl rfl rfl dX10_thankThen_31 ?_
      refine j_aload_n (pc := 34) hM dX10_thankThen_34 rfl 0 rfl ?_
      refine j_dup (pc := 35) hM dX10_thankThen_35 rfl ?_
      refine j_get (pc := 36) hM fd_X10_120 0 rfl rfl dX10_thankThen_36 ?_
      refine j_aload_n (pc := 39) hM dX10_thankThen_39 rfl 0 rfl ?_
      refine j_get (pc := 40) hM fd_X10_120 0 rfl rfl dX10_thankThen_40 ?_
      refine j_if_le (pc := 43) hM 50 dX10_thankThen_43 (by decide) (i0_le (by omega)) (fun c43 => ?_) (fun c43 => ?_)
      · skip
        refine j_iconst (pc := 50) hM (v := nI 0) dX10_thankThen_50 (by decide) ?_
        refine j_isub (pc := 51) hM (v := nI (st.2.1 - 0)) dX10_thankThen_51 (nsub (by omega)) ?_
        refine j_put (pc := 52) hM fp_X10_120 [(o, .inr (10, [.ref aP, .int (nI pn), .int (nI en), .int (nI ne), .int (nI ns), .int (nI nb), .int (nI na), .int (nI s.1), .int (nI s.2.1), .int (nI s.2.2), .int (nI tm), .int (nI sr), .ref aH, .ref aW, .ref aD, .ref aK, .ref aM, .int (nI (st.1 - 3)), .int (nI (st.2.1 - 0)), .int (nI 0), .int (nI fd), .int (nI sn), .ref aG, .int (nI sd), .int (nI kS), .int (nI ks.1), .int (nI ks.2.1), .int (nI ks.2.2), .int (nI ktm), .int (nI ksn), .ref bH, .ref bW, .ref bK, .ref bM, .ref bG, .long hs]))] 0 rfl (lb rfl) rfl rfl rfl dX10_thankThen_52 ?_
        exact hret () _ _ _ trivial (eq3 (fun (z0 : Nat) (z1 : Nat) (z2 : Nat) => ([(o, .inr (10, [.ref aP, .int (nI pn), .int (nI en), .int (nI ne), .int (nI ns), .int (nI nb), .int (nI na), .int (nI s.1), .int (nI s.2.1), .int (nI s.2.2), .int (nI tm), .int (nI sr), .ref aH, .ref aW, .ref aD, .ref aK, .ref aM, .int (nI z0), .int (nI z1), .int (nI z2), .int (nI fd), .int (nI sn), .ref aG, .int (nI sd), .int (nI kS), .int (nI ks.1), .int (nI ks.2.1), .int (nI ks.2.2), .int (nI ktm), .int (nI ksn), .ref bH, .ref bW, .ref bK, .ref bM, .ref bG, .long hs]))] : va_W)) (show (st.1 - 3) = ((thk st).1) from by simp only [hear, rise, offn, thk]; repeat' (first | omega | split)) (show (st.2.1 - 0) = ((thk st).2.1) from by simp only [hear, rise, offn, thk]; repeat' (first | omega | split)) (show 0 = ((thk st).2.2) from by simp only [hear, rise, offn, thk]; repeat' (first | omega | split))) rfl dX10_thankThen_55
      · skip
        refine j_iconst (pc := 46) hM (v := nI 1) dX10_thankThen_46 (by decide) ?_
        refine j_goto (pc := 47) hM 51 dX10_thankThen_47 (by decide) ?_
        refine j_isub (pc := 51) hM (v := nI (st.2.1 - 1)) dX10_thankThen_51 (nsub (by omega)) ?_
        refine j_put (pc := 52) hM fp_X10_120 [(o, .inr (10, [.ref aP, .int (nI pn), .int (nI en), .int (nI ne), .int (nI ns), .int (nI nb), .int (nI na), .int (nI s.1), .int (nI s.2.1), .int (nI s.2.2), .int (nI tm), .int (nI sr), .ref aH, .ref aW, .ref aD, .ref aK, .ref aM, .int (nI (st.1 - 3)), .int (nI (st.2.1 - 1)), .int (nI 0), .int (nI fd), .int (nI sn), .ref aG, .int (nI sd), .int (nI kS), .int (nI ks.1), .int (nI ks.2.1), .int (nI ks.2.2), .int (nI ktm), .int (nI ksn), .ref bH, .ref bW, .ref bK, .ref bM, .ref bG, .long hs]))] 0 rfl (lb rfl) rfl rfl rfl dX10_thankThen_52 ?_
        exact hret () _ _ _ trivial (eq3 (fun (z0 : Nat) (z1 : Nat) (z2 : Nat) => ([(o, .inr (10, [.ref aP, .int (nI pn), .int (nI en), .int (nI ne), .int (nI ns), .int (nI nb), .int (nI na), .int (nI s.1), .int (nI s.2.1), .int (nI s.2.2), .int (nI tm), .int (nI sr), .ref aH, .ref aW, .ref aD, .ref aK, .ref aM, .int (nI z0), .int (nI z1), .int (nI z2), .int (nI fd), .int (nI sn), .ref aG, .int (nI sd), .int (nI kS), .int (nI ks.1), .int (nI ks.2.1), .int (nI ks.2.2), .int (nI ktm), .int (nI ksn), .ref bH, .ref bW, .ref bK, .ref bM, .ref bG, .long hs]))] : va_W)) (show (st.1 - 3) = ((thk st).1) from by simp only [hear, rise, offn, thk]; repeat' (first | omega | split)) (show (st.2.1 - 1) = ((thk st).2.1) from by simp only [hear, rise, offn, thk]; repeat' (first | omega | split)) (show 0 = ((thk st).2.2) from by simp only [hear, rise, offn, thk]; repeat' (first | omega | split))) rfl dX10_thankThen_55
set_option maxHeartbeats 4000000 in
set_option maxRecDepth 100000 in
theorem c_X10_reachesThen (l : Launch) (D : va_G) (cy : ClassId) (o : Nat) (aP : Nat) (aH : Nat) (aW : Nat) (aD : Nat) (aK : Nat) (aM : Nat) (aG : Nat) (bH : Nat) (bW : Nat) (bK : Nat) (bM : Nat) (bG : Nat) (pn : Nat) (en : Nat) (ne : Nat) (ns : Nat) (nb : Nat) (na : Nat) (tm : Nat) (sr : Nat) (fd : Nat) (sn : Nat) (sd : Nat) (kS : Nat) (ktm : Nat) (ksn : Nat) (s : S3) (ks : S3) (hs : Int64) (tt : Nat) (gg : Nat) (zz : Nat) (h : Nat → Nat) (c : Nat) (hn : ns ≤ 8) (hh : ∀ i, i < ns → h i ≤ 9) (hc : c < ns) (ht : tt ≤ 30) : Ct (σ := Unit) l D cy yX10_reachesThen cX10_reachesThen 4 (some .boolean) { frames := 0, cells := 0, slots := 0, locals := 0 } [.ref o, .int (nI c)] [(o, .inr (10, [.ref aP, .int (nI pn), .int (nI en), .int (nI ne), .int (nI ns), .int (nI nb), .int (nI na), .int (nI s.1), .int (nI s.2.1), .int (nI s.2.2), .int (nI tm), .int (nI sr), .ref aH, .ref aW, .ref aD, .ref aK, .ref aM, .int (nI tt), .int (nI gg), .int (nI zz), .int (nI fd), .int (nI sn), .ref aG, .int (nI sd), .int (nI kS), .int (nI ks.1), .int (nI ks.2.1), .int (nI ks.2.2), .int (nI ktm), .int (nI ksn), .ref bH, .ref bW, .ref bK, .ref bM, .ref bG, .long hs])), (aH, arC cy 8 h)] (fun _ => True) (fun _ => some (.int (nI (if mx h (c + 1) < tt then 1 else 0)))) (fun _ => [(o, .inr (10, [.ref aP, .int (nI pn), .int (nI en), .int (nI ne), .int (nI ns), .int (nI nb), .int (nI na), .int (nI s.1), .int (nI s.2.1), .int (nI s.2.2), .int (nI tm), .int (nI sr), .ref aH, .ref aW, .ref aD, .ref aK, .ref aM, .int (nI tt), .int (nI gg), .int (nI zz), .int (nI fd), .int (nI sn), .ref aG, .int (nI sd), .int (nI kS), .int (nI ks.1), .int (nI ks.2.1), .int (nI ks.2.2), .int (nI ktm), .int (nI ksn), .ref bH, .ref bW, .ref bK, .ref bM, .ref bG, .long hs])), (aH, arC cy 8 h)]) := by
  refine Ct_ofI (by decide) (lb rfl) [(0, .ref o), (1, .int (nI c))] rfl (fun G hM hret => ?_)
  refine j_iconst (pc := 0) hM (v := nI 1) dX10_reachesThen_0 (by decide) ?_
  refine j_istore_n (pc := 1) hM [(2, .int (nI 1)), (0, .ref o), (1, .int (nI c))] dX10_reachesThen_1 rfl (by decide) rfl ?_
  refine j_iconst (pc := 2) hM (v := nI 0) dX10_reachesThen_2 (by decide) ?_
  refine j_istore_n (pc := 3) hM [(3, .int (nI 0)), (2, .int (nI 1)), (0, .ref o), (1, .int (nI c))] dX10_reachesThen_3 rfl (by decide) rfl ?_
  have L4 : ∀ (n4 : Nat) (i : Nat) (x : Nat), (i ≤ c + 1) → (x ≤ 1) → (x = 1 ↔ ∀ j, j < i → h j < tt) → (c + 1 - i) < n4 → G [(o, .inr (10, [.ref aP, .int (nI pn), .int (nI en), .int (nI ne), .int (nI ns), .int (nI nb), .int (nI na), .int (nI s.1), .int (nI s.2.1), .int (nI s.2.2), .int (nI tm), .int (nI sr), .ref aH, .ref aW, .ref aD, .ref aK, .ref aM, .int (nI tt), .int (nI gg), .int (nI zz), .int (nI fd), .int (nI sn), .ref aG, .int (nI sd), .int (nI kS), .int (nI ks.1), .int (nI ks.2.1), .int (nI ks.2.2), .int (nI ktm), .int (nI ksn), .ref bH, .ref bW, .ref bK, .ref bM, .ref bG, .long hs])), (aH, arC cy 8 h)] [(0, .ref o), (1, .int (nI c)), (2, .int (nI x)), (3, .int (nI i))] 4 [] := by
    intro n4
    induction n4 with
    | zero => intro i x hi hx1 hx hm4; exact absurd hm4 (Nat.not_lt_zero _)
    | succ n4 ih4 =>
      intro i x hi hx1 hx hm4
      refine j_iload_n (pc := 4) hM dX10_reachesThen_4 rfl 3 rfl ?_
      refine j_iload_n (pc := 5) hM dX10_reachesThen_5 rfl 1 rfl ?_
      refine j_icmp_gt (pc := 6) hM 38 dX10_reachesThen_6 (by decide) (cLT (by omega) (by omega)) (fun c6 => ?_) (fun c6 => ?_)
      · skip
        refine j_iload_n (pc := 38) hM dX10_reachesThen_38 rfl 2 rfl ?_
        exact hret () _ _ _ _ trivial rfl (sI (show x = (if mx h (c + 1) < tt then 1 else 0) from by rw [show i = c + 1 by omega] at hx; exact mxq hx1 hx (by omega))) (nbool hx1) dX10_reachesThen_39
      · skip
        refine j_iload_n (pc := 9) hM dX10_reachesThen_9 rfl 2 rfl ?_
        refine j_if_eq (pc := 10) hM 30 dX10_reachesThen_10 (by decide) (i0_eq (by omega)) (fun c10 => ?_) (fun c10 => ?_)
        · skip
          refine j_iconst (pc := 30) hM (v := nI 0) dX10_reachesThen_30 (by decide) ?_
          refine j_istore_n (pc := 31) hM [(2, .int (nI 0)), (0, .ref o), (1, .int (nI c)), (3, .int (nI i))] dX10_reachesThen_31 rfl (by decide) rfl ?_
          refine j_iinc (pc := 32) hM (n' := 3) [(3, .int (nI (i + 1))), (2, .int (nI 0)), (0, .ref o), (1, .int (nI c))] dX10_reachesThen_32 rfl (nI_add _ 1) (by decide) rfl ?_
          refine j_goto (pc := 35) hM 4 dX10_reachesThen_35 (by decide) ?_
          refine j_lv (pc := 4) hM [2, 3, 1, 0] rfl ?_
          exact ih4 (i + 1) 0 (by omega) (by omega) (by rw [all_up]; first | exact one_t hx c10 hx1 (by omega) | exact one_f hx (Or.inl c10) | exact one_f hx (Or.inr (by omega))) (by omega)
        · skip
          refine j_aload_n (pc := 13) hM dX10_reachesThen_13 rfl 0 rfl ?_
          refine j_get (pc := 14) hM fd_X10_13 0 rfl rfl dX10_reachesThen_14 ?_
          refine j_iload_n (pc := 17) hM dX10_reachesThen_17 rfl 3 rfl ?_
          refine j_ldN (pc := 18) hM (v := h i) 1 rfl (by omega) (by decide) rfl dX10_reachesThen_18 ?_
          have b18 := hh i (by omega)
          refine j_aload_n (pc := 19) hM dX10_reachesThen_19 rfl 0 rfl ?_
          refine j_get (pc := 20) hM fd_X10_117 0 rfl rfl dX10_reachesThen_20 ?_
          refine j_icmp_ge (pc := 23) hM 30 dX10_reachesThen_23 (by decide) (cLE (by omega) (by omega)) (fun c23 => ?_) (fun c23 => ?_)
          · skip
            refine j_iconst (pc := 30) hM (v := nI 0) dX10_reachesThen_30 (by decide) ?_
            refine j_istore_n (pc := 31) hM [(2, .int (nI 0)), (0, .ref o), (1, .int (nI c)), (3, .int (nI i))] dX10_reachesThen_31 rfl (by decide) rfl ?_
            refine j_iinc (pc := 32) hM (n' := 3) [(3, .int (nI (i + 1))), (2, .int (nI 0)), (0, .ref o), (1, .int (nI c))] dX10_reachesThen_32 rfl (nI_add _ 1) (by decide) rfl ?_
            refine j_goto (pc := 35) hM 4 dX10_reachesThen_35 (by decide) ?_
            refine j_lv (pc := 4) hM [2, 3, 1, 0] rfl ?_
            exact ih4 (i + 1) 0 (by omega) (by omega) (by rw [all_up]; first | exact one_t hx c10 hx1 (by omega) | exact one_f hx (Or.inl c10) | exact one_f hx (Or.inr (by omega))) (by omega)
          · skip
            refine j_iconst (pc := 26) hM (v := nI 1) dX10_reachesThen_26 (by decide) ?_
            refine j_goto (pc := 27) hM 31 dX10_reachesThen_27 (by decide) ?_
            refine j_istore_n (pc := 31) hM [(2, .int (nI 1)), (0, .ref o), (1, .int (nI c)), (3, .int (nI i))] dX10_reachesThen_31 rfl (by decide) rfl ?_
            refine j_iinc (pc := 32) hM (n' := 3) [(3, .int (nI (i + 1))), (2, .int (nI 1)), (0, .ref o), (1, .int (nI c))] dX10_reachesThen_32 rfl (nI_add _ 1) (by decide) rfl ?_
            refine j_goto (pc := 35) hM 4 dX10_reachesThen_35 (by decide) ?_
            refine j_lv (pc := 4) hM [2, 3, 1, 0] rfl ?_
            exact ih4 (i + 1) 1 (by omega) (by omega) (by rw [all_up]; first | exact one_t hx c10 hx1 (by omega) | exact one_f hx (Or.inl c10) | exact one_f hx (Or.inr (by omega))) (by omega)
  refine j_lv (pc := 4) hM [2, 3, 1, 0] rfl ?_
  exact L4 _ 0 1 (by omega) (by omega) (⟨fun _ j hj => absurd hj (Nat.not_lt_zero j), fun _ => rfl⟩) (Nat.lt_succ_self _)
set_option maxHeartbeats 4000000 in
set_option maxRecDepth 100000 in
theorem c_X10_floatsThen (l : Launch) (D : va_G) (cy : ClassId) (o : Nat) (aP : Nat) (aH : Nat) (aW : Nat) (aD : Nat) (aK : Nat) (aM : Nat) (aG : Nat) (bH : Nat) (bW : Nat) (bK : Nat) (bM : Nat) (bG : Nat) (pn : Nat) (en : Nat) (ne : Nat) (ns : Nat) (nb : Nat) (na : Nat) (tm : Nat) (sr : Nat) (fd : Nat) (sn : Nat) (sd : Nat) (kS : Nat) (ktm : Nat) (ksn : Nat) (s : S3) (ks : S3) (hs : Int64) (tt : Nat) (gg : Nat) (zz : Nat) (h : Nat → Nat) (w : Nat → Nat) (d : Nat → Nat) (b : Nat) (ok : okB ns nb h w d) (hb : b < nb) (ht : tt ≤ 30) : Ct (σ := Unit) l D cy yX10_floatsThen cX10_floatsThen 2 (some .boolean) { frames := 1, cells := 0, slots := 0, locals := 23 } [.ref o, .int (nI b)] [(o, .inr (10, [.ref aP, .int (nI pn), .int (nI en), .int (nI ne), .int (nI ns), .int (nI nb), .int (nI na), .int (nI s.1), .int (nI s.2.1), .int (nI s.2.2), .int (nI tm), .int (nI sr), .ref aH, .ref aW, .ref aD, .ref aK, .ref aM, .int (nI tt), .int (nI gg), .int (nI zz), .int (nI fd), .int (nI sn), .ref aG, .int (nI sd), .int (nI kS), .int (nI ks.1), .int (nI ks.2.1), .int (nI ks.2.2), .int (nI ktm), .int (nI ksn), .ref bH, .ref bW, .ref bK, .ref bM, .ref bG, .long hs])), (aH, arC cy 8 h), (aW, arC cy 3 w), (aD, arC cy 3 d)] (fun _ => True) (fun _ => some (.int (nI (if leastT h w d b ≤ tt then 1 else 0)))) (fun _ => [(o, .inr (10, [.ref aP, .int (nI pn), .int (nI en), .int (nI ne), .int (nI ns), .int (nI nb), .int (nI na), .int (nI s.1), .int (nI s.2.1), .int (nI s.2.2), .int (nI tm), .int (nI sr), .ref aH, .ref aW, .ref aD, .ref aK, .ref aM, .int (nI tt), .int (nI gg), .int (nI zz), .int (nI fd), .int (nI sn), .ref aG, .int (nI sd), .int (nI kS), .int (nI ks.1), .int (nI ks.2.1), .int (nI ks.2.2), .int (nI ktm), .int (nI ksn), .ref bH, .ref bW, .ref bK, .ref bM, .ref bG, .long hs])), (aH, arC cy 8 h), (aW, arC cy 3 w), (aD, arC cy 3 d)]) := by
  refine Ct_ofI (by decide) (lb rfl) [(0, .ref o), (1, .int (nI b))] rfl (fun G hM hret => ?_)
  obtain ⟨e1, e2, e3, e4, e5⟩ := id ok
  have hmx : h (w b) ≤ mx h (w b + 1) := Nat.le_max_right _ _
  have hwb := e4 b hb
  have hdb := e5 b hb
  have hL : leastT h w d b = max (mx h (w b + 1) + 1) (h (w b) + d b) := rfl
  refine j_aload_n (pc := 0) hM dX10_floatsThen_0 rfl 0 rfl ?_
  refine j_aload_n (pc := 1) hM dX10_floatsThen_1 rfl 0 rfl ?_
  refine j_get (pc := 2) hM fd_X10_16 0 rfl rfl dX10_floatsThen_2 ?_
  refine j_iload_n (pc := 5) hM dX10_floatsThen_5 rfl 1 rfl ?_
  refine j_ldN (pc := 6) hM (v := w b) 2 rfl (by omega) (by decide) rfl dX10_floatsThen_6 ?_
  refine j_callV (pc := 7) hM cv_X10_130 (As := [.int (nI (w b))]) (rest := []) (b := o) (c_X10_reachesThen l D cy o aP aH aW aD aK aM aG bH bW bK bM bG pn en ne ns nb na tm sr fd sn sd kS ktm ksn s ks hs tt gg zz h (w b) e1 e3 (by first | assumption | omega) ht) ⟨lb rfl, lb rfl, lb rfl, lb rfl⟩ rfl 0 rfl rfl [0, 1] [2, 3] [2, 3, 0, 1] [(aW, arC cy 3 w), (aD, arC cy 3 d)] (fun _ => [(o, .inr (10, [.ref aP, .int (nI pn), .int (nI en), .int (nI ne), .int (nI ns), .int (nI nb), .int (nI na), .int (nI s.1), .int (nI s.2.1), .int (nI s.2.2), .int (nI tm), .int (nI sr), .ref aH, .ref aW, .ref aD, .ref aK, .ref aM, .int (nI tt), .int (nI gg), .int (nI zz), .int (nI fd), .int (nI sn), .ref aG, .int (nI sd), .int (nI kS), .int (nI ks.1), .int (nI ks.2.1), .int (nI ks.2.2), .int (nI ktm), .int (nI ksn), .ref bH, .ref bW, .ref bK, .ref bM, .ref bG, .long hs])), (aH, arC cy 8 h), (aW, arC cy 3 w), (aD, arC cy 3 d)]) rfl (by decide) rfl (by decide) (by decide) (by decide) (fun _ => rfl) (lb rfl) dX10_floatsThen_7 hM.two (fun _ _ => ?_)
  show G [(o, .inr (10, [.ref aP, .int (nI pn), .int (nI en), .int (nI ne), .int (nI ns), .int (nI nb), .int (nI na), .int (nI s.1), .int (nI s.2.1), .int (nI s.2.2), .int (nI tm), .int (nI sr), .ref aH, .ref aW, .ref aD, .ref aK, .ref aM, .int (nI tt), .int (nI gg), .int (nI zz), .int (nI fd), .int (nI sn), .ref aG, .int (nI sd), .int (nI kS), .int (nI ks.1), .int (nI ks.2.1), .int (nI ks.2.2), .int (nI ktm), .int (nI ksn), .ref bH, .ref bW, .ref bK, .ref bM, .ref bG, .long hs])), (aH, arC cy 8 h), (aW, arC cy 3 w), (aD, arC cy 3 d)] [(0, .ref o), (1, .int (nI b))] 10 [.int (nI (if mx h ((w b) + 1) < tt then 1 else 0))]
  refine j_if_eqB (pc := 10) (P := (mx h ((w b) + 1) < tt)) hM 42 dX10_floatsThen_10 (by decide) b0_eq (fun c10 => ?_) (fun c10 => ?_)
  · skip
    refine j_iconst (pc := 42) hM (v := nI 0) dX10_floatsThen_42 (by decide) ?_
    exact hret () _ _ _ _ trivial rfl (sI (show 0 = (if leastT h w d b ≤ tt then 1 else 0) from by first | rfl | omega | (rw [if_pos (by omega)]) | (rw [if_neg (by omega)]))) rfl dX10_floatsThen_43
  · skip
    refine j_aload_n (pc := 13) hM dX10_floatsThen_13 rfl 0 rfl ?_
    refine j_get (pc := 14) hM fd_X10_117 0 rfl rfl dX10_floatsThen_14 ?_
    refine j_aload_n (pc := 17) hM dX10_floatsThen_17 rfl 0 rfl ?_
    refine j_get (pc := 18) hM fd_X10_13 0 rfl rfl dX10_floatsThen_18 ?_
    refine j_aload_n (pc := 21) hM dX10_floatsThen_21 rfl 0 rfl ?_
    refine j_get (pc := 22) hM fd_X10_16 0 rfl rfl dX10_floatsThen_22 ?_
    refine j_iload_n (pc := 25) hM dX10_floatsThen_25 rfl 1 rfl ?_
    refine j_ldN (pc := 26) hM (v := w b) 2 rfl (by omega) (by decide) rfl dX10_floatsThen_26 ?_
    refine j_ldN (pc := 27) hM (v := h (w b)) 1 rfl (by omega) (by decide) rfl dX10_floatsThen_27 ?_
    refine j_isub (pc := 28) hM (v := nI (tt - (h (w b)))) dX10_floatsThen_28 (nsub (by omega)) ?_
    refine j_aload_n (pc := 29) hM dX10_floatsThen_29 rfl 0 rfl ?_
    refine j_get (pc := 30) hM fd_X10_19 0 rfl rfl dX10_floatsThen_30 ?_
    refine j_iload_n (pc := 33) hM dX10_floatsThen_33 rfl 1 rfl ?_
    refine j_ldN (pc := 34) hM (v := d b) 3 rfl (by omega) (by decide) rfl dX10_floatsThen_34 ?_
    refine j_icmp_lt (pc := 35) hM 42 dX10_floatsThen_35 (by decide) (cLT (by omega) (by omega)) (fun c35 => ?_) (fun c35 => ?_)
    · skip
      refine j_iconst (pc := 42) hM (v := nI 0) dX10_floatsThen_42 (by decide) ?_
      exact hret () _ _ _ _ trivial rfl (sI (show 0 = (if leastT h w d b ≤ tt then 1 else 0) from by first | rfl | omega | (rw [if_pos (by omega)]) | (rw [if_neg (by omega)]))) rfl dX10_floatsThen_43
    · skip
      refine j_iconst (pc := 38) hM (v := nI 1) dX10_floatsThen_38 (by decide) ?_
      refine j_goto (pc := 39) hM 43 dX10_floatsThen_39 (by decide) ?_
      exact hret () _ _ _ _ trivial rfl (sI (show 1 = (if leastT h w d b ≤ tt then 1 else 0) from by first | rfl | omega | (rw [if_pos (by omega)]) | (rw [if_neg (by omega)]))) rfl dX10_floatsThen_43
set_option maxHeartbeats 4000000 in
set_option maxRecDepth 100000 in
theorem c_X10_floating (l : Launch) (D : va_G) (cy : ClassId) (o : Nat) (aP : Nat) (aH : Nat) (aW : Nat) (aD : Nat) (aK : Nat) (aM : Nat) (aG : Nat) (bH : Nat) (bW : Nat) (bK : Nat) (bM : Nat) (bG : Nat) (pn : Nat) (en : Nat) (ne : Nat) (ns : Nat) (nb : Nat) (na : Nat) (tm : Nat) (sr : Nat) (fd : Nat) (sn : Nat) (sd : Nat) (kS : Nat) (ktm : Nat) (ksn : Nat) (s : S3) (ks : S3) (hs : Int64) (tt : Nat) (gg : Nat) (zz : Nat) (h : Nat → Nat) (w : Nat → Nat) (d : Nat → Nat) (ok : okB ns nb h w d) (ht : tt ≤ 30) : Ct (σ := Unit) l D cy yX10_floating cX10_floating 3 (some .int) { frames := 2, cells := 0, slots := 0, locals := 44 } [.ref o] [(o, .inr (10, [.ref aP, .int (nI pn), .int (nI en), .int (nI ne), .int (nI ns), .int (nI nb), .int (nI na), .int (nI s.1), .int (nI s.2.1), .int (nI s.2.2), .int (nI tm), .int (nI sr), .ref aH, .ref aW, .ref aD, .ref aK, .ref aM, .int (nI tt), .int (nI gg), .int (nI zz), .int (nI fd), .int (nI sn), .ref aG, .int (nI sd), .int (nI kS), .int (nI ks.1), .int (nI ks.2.1), .int (nI ks.2.2), .int (nI ktm), .int (nI ksn), .ref bH, .ref bW, .ref bK, .ref bM, .ref bG, .long hs])), (aH, arC cy 8 h), (aW, arC cy 3 w), (aD, arC cy 3 d)] (fun _ => True) (fun _ => some (.int (nI (nfl h w d tt nb)))) (fun _ => [(o, .inr (10, [.ref aP, .int (nI pn), .int (nI en), .int (nI ne), .int (nI ns), .int (nI nb), .int (nI na), .int (nI s.1), .int (nI s.2.1), .int (nI s.2.2), .int (nI tm), .int (nI sr), .ref aH, .ref aW, .ref aD, .ref aK, .ref aM, .int (nI tt), .int (nI gg), .int (nI zz), .int (nI fd), .int (nI sn), .ref aG, .int (nI sd), .int (nI kS), .int (nI ks.1), .int (nI ks.2.1), .int (nI ks.2.2), .int (nI ktm), .int (nI ksn), .ref bH, .ref bW, .ref bK, .ref bM, .ref bG, .long hs])), (aH, arC cy 8 h), (aW, arC cy 3 w), (aD, arC cy 3 d)]) := by
  refine Ct_ofI (by decide) (lb rfl) [(0, .ref o)] rfl (fun G hM hret => ?_)
  have e2 := ok.2.1
  refine j_iconst (pc := 0) hM (v := nI 0) dX10_floating_0 (by decide) ?_
  refine j_istore_n (pc := 1) hM [(1, .int (nI 0)), (0, .ref o)] dX10_floating_1 rfl (by decide) rfl ?_
  refine j_iconst (pc := 2) hM (v := nI 0) dX10_floating_2 (by decide) ?_
  refine j_istore_n (pc := 3) hM [(2, .int (nI 0)), (1, .int (nI 0)), (0, .ref o)] dX10_floating_3 rfl (by decide) rfl ?_
  have L4 : ∀ (n4 : Nat) (i : Nat) (x : Nat), (i ≤ nb) → (x = nfl h w d tt i) → (nb - i) < n4 → G [(o, .inr (10, [.ref aP, .int (nI pn), .int (nI en), .int (nI ne), .int (nI ns), .int (nI nb), .int (nI na), .int (nI s.1), .int (nI s.2.1), .int (nI s.2.2), .int (nI tm), .int (nI sr), .ref aH, .ref aW, .ref aD, .ref aK, .ref aM, .int (nI tt), .int (nI gg), .int (nI zz), .int (nI fd), .int (nI sn), .ref aG, .int (nI sd), .int (nI kS), .int (nI ks.1), .int (nI ks.2.1), .int (nI ks.2.2), .int (nI ktm), .int (nI ksn), .ref bH, .ref bW, .ref bK, .ref bM, .ref bG, .long hs])), (aH, arC cy 8 h), (aW, arC cy 3 w), (aD, arC cy 3 d)] [(0, .ref o), (1, .int (nI x)), (2, .int (nI i))] 4 [] := by
    intro n4
    induction n4 with
    | zero => intro i x hi hx hm4; exact absurd hm4 (Nat.not_lt_zero _)
    | succ n4 ih4 =>
      intro i x hi hx hm4
      refine j_iload_n (pc := 4) hM dX10_floating_4 rfl 2 rfl ?_
      refine j_aload_n (pc := 5) hM dX10_floating_5 rfl 0 rfl ?_
      refine j_get (pc := 6) hM fd_X10_93 0 rfl rfl dX10_floating_6 ?_
      refine j_icmp_ge (pc := 9) hM 34 dX10_floating_9 (by decide) (cLE (by omega) (by omega)) (fun c9 => ?_) (fun c9 => ?_)
      · skip
        refine j_iload_n (pc := 34) hM dX10_floating_34 rfl 1 rfl ?_
        exact hret () _ _ _ _ trivial rfl (sI (show x = (nfl h w d tt nb) from by rw [hx, show i = nb by omega])) rfl dX10_floating_35
      · skip
        refine j_iload_n (pc := 12) hM dX10_floating_12 rfl 1 rfl ?_
        refine j_aload_n (pc := 13) hM dX10_floating_13 rfl 0 rfl ?_
        refine j_iload_n (pc := 14) hM dX10_floating_14 rfl 2 rfl ?_
        refine j_callV (pc := 15) hM cv_X10_133 (As := [.int (nI i)]) (rest := [.int (nI x)]) (b := o) (c_X10_floatsThen l D cy o aP aH aW aD aK aM aG bH bW bK bM bG pn en ne ns nb na tm sr fd sn sd kS ktm ksn s ks hs tt gg zz h w d i ok (by first | assumption | omega) ht) ⟨lb rfl, lb rfl, lb rfl, lb rfl⟩ rfl 0 rfl rfl [0, 1, 2, 3] [] [0, 1, 2, 3] [] (fun _ => [(o, .inr (10, [.ref aP, .int (nI pn), .int (nI en), .int (nI ne), .int (nI ns), .int (nI nb), .int (nI na), .int (nI s.1), .int (nI s.2.1), .int (nI s.2.2), .int (nI tm), .int (nI sr), .ref aH, .ref aW, .ref aD, .ref aK, .ref aM, .int (nI tt), .int (nI gg), .int (nI zz), .int (nI fd), .int (nI sn), .ref aG, .int (nI sd), .int (nI kS), .int (nI ks.1), .int (nI ks.2.1), .int (nI ks.2.2), .int (nI ktm), .int (nI ksn), .ref bH, .ref bW, .ref bK, .ref bM, .ref bG, .long hs])), (aH, arC cy 8 h), (aW, arC cy 3 w), (aD, arC cy 3 d)]) rfl (by decide) rfl (by decide) (by decide) (by decide) (fun _ => rfl) (lb rfl) dX10_floating_15 hM.two (fun _ _ => ?_)
        show G [(o, .inr (10, [.ref aP, .int (nI pn), .int (nI en), .int (nI ne), .int (nI ns), .int (nI nb), .int (nI na), .int (nI s.1), .int (nI s.2.1), .int (nI s.2.2), .int (nI tm), .int (nI sr), .ref aH, .ref aW, .ref aD, .ref aK, .ref aM, .int (nI tt), .int (nI gg), .int (nI zz), .int (nI fd), .int (nI sn), .ref aG, .int (nI sd), .int (nI kS), .int (nI ks.1), .int (nI ks.2.1), .int (nI ks.2.2), .int (nI ktm), .int (nI ksn), .ref bH, .ref bW, .ref bK, .ref bM, .ref bG, .long hs])), (aH, arC cy 8 h), (aW, arC cy 3 w), (aD, arC cy 3 d)] [(0, .ref o), (1, .int (nI x)), (2, .int (nI i))] 18 [.int (nI (if leastT h w d i ≤ tt then 1 else 0)), .int (nI x)]
        refine j_if_eqB (pc := 18) (P := (leastT h w d i ≤ tt)) hM 25 dX10_floating_18 (by decide) b0_eq (fun c18 => ?_) (fun c18 => ?_)
        · skip
          refine j_iconst (pc := 25) hM (v := nI 0) dX10_floating_25 (by decide) ?_
          refine j_iadd (pc := 26) hM (v := nI (x + 0)) dX10_floating_26 (nI_add _ _) ?_
          refine j_istore_n (pc := 27) hM [(1, .int (nI (x + 0))), (0, .ref o), (2, .int (nI i))] dX10_floating_27 rfl (by decide) rfl ?_
          refine j_iinc (pc := 28) hM (n' := 2) [(2, .int (nI (i + 1))), (1, .int (nI (x + 0))), (0, .ref o)] dX10_floating_28 rfl (nI_add _ 1) (by decide) rfl ?_
          refine j_goto (pc := 31) hM 4 dX10_floating_31 (by decide) ?_
          refine j_lv (pc := 4) hM [2, 1, 0] rfl ?_
          exact ih4 (i + 1) (x + 0) (by omega) (by rw [hx]; simp [nfl, c18]) (by omega)
        · skip
          refine j_iconst (pc := 21) hM (v := nI 1) dX10_floating_21 (by decide) ?_
          refine j_goto (pc := 22) hM 26 dX10_floating_22 (by decide) ?_
          refine j_iadd (pc := 26) hM (v := nI (x + 1)) dX10_floating_26 (nI_add _ _) ?_
          refine j_istore_n (pc := 27) hM [(1, .int (nI (x + 1))), (0, .ref o), (2, .int (nI i))] dX10_floating_27 rfl (by decide) rfl ?_
          refine j_iinc (pc := 28) hM (n' := 2) [(2, .int (nI (i + 1))), (1, .int (nI (x + 1))), (0, .ref o)] dX10_floating_28 rfl (nI_add _ 1) (by decide) rfl ?_
          refine j_goto (pc := 31) hM 4 dX10_floating_31 (by decide) ?_
          refine j_lv (pc := 4) hM [2, 1, 0] rfl ?_
          exact ih4 (i + 1) (x + 1) (by omega) (by rw [hx]; simp [nfl, c18]) (by omega)
  refine j_lv (pc := 4) hM [2, 1, 0] rfl ?_
  exact L4 _ 0 0 (by omega) rfl (Nat.lt_succ_self _)
set_option maxHeartbeats 4000000 in
set_option maxRecDepth 100000 in
theorem c_X10_reached (l : Launch) (D : va_G) (cy : ClassId) (o : Nat) (aP : Nat) (aH : Nat) (aW : Nat) (aD : Nat) (aK : Nat) (aM : Nat) (aG : Nat) (bH : Nat) (bW : Nat) (bK : Nat) (bM : Nat) (bG : Nat) (pn : Nat) (en : Nat) (ne : Nat) (ns : Nat) (nb : Nat) (na : Nat) (tm : Nat) (sr : Nat) (fd : Nat) (sn : Nat) (sd : Nat) (kS : Nat) (ktm : Nat) (ksn : Nat) (s : S3) (ks : S3) (hs : Int64) (tt : Nat) (gg : Nat) (zz : Nat) (h : Nat → Nat) (hn : ns ≤ 8) (hh : ∀ i, i < ns → h i ≤ 9) (ht : tt ≤ 30) : Ct (σ := Unit) l D cy yX10_reached cX10_reached 3 (some .int) { frames := 1, cells := 0, slots := 0, locals := 23 } [.ref o] [(o, .inr (10, [.ref aP, .int (nI pn), .int (nI en), .int (nI ne), .int (nI ns), .int (nI nb), .int (nI na), .int (nI s.1), .int (nI s.2.1), .int (nI s.2.2), .int (nI tm), .int (nI sr), .ref aH, .ref aW, .ref aD, .ref aK, .ref aM, .int (nI tt), .int (nI gg), .int (nI zz), .int (nI fd), .int (nI sn), .ref aG, .int (nI sd), .int (nI kS), .int (nI ks.1), .int (nI ks.2.1), .int (nI ks.2.2), .int (nI ktm), .int (nI ksn), .ref bH, .ref bW, .ref bK, .ref bM, .ref bG, .long hs])), (aH, arC cy 8 h)] (fun _ => True) (fun _ => some (.int (nI (nre h tt ns)))) (fun _ => [(o, .inr (10, [.ref aP, .int (nI pn), .int (nI en), .int (nI ne), .int (nI ns), .int (nI nb), .int (nI na), .int (nI s.1), .int (nI s.2.1), .int (nI s.2.2), .int (nI tm), .int (nI sr), .ref aH, .ref aW, .ref aD, .ref aK, .ref aM, .int (nI tt), .int (nI gg), .int (nI zz), .int (nI fd), .int (nI sn), .ref aG, .int (nI sd), .int (nI kS), .int (nI ks.1), .int (nI ks.2.1), .int (nI ks.2.2), .int (nI ktm), .int (nI ksn), .ref bH, .ref bW, .ref bK, .ref bM, .ref bG, .long hs])), (aH, arC cy 8 h)]) := by
  refine Ct_ofI (by decide) (lb rfl) [(0, .ref o)] rfl (fun G hM hret => ?_)
  refine j_iconst (pc := 0) hM (v := nI 0) dX10_reached_0 (by decide) ?_
  refine j_istore_n (pc := 1) hM [(1, .int (nI 0)), (0, .ref o)] dX10_reached_1 rfl (by decide) rfl ?_
  refine j_iconst (pc := 2) hM (v := nI 0) dX10_reached_2 (by decide) ?_
  refine j_istore_n (pc := 3) hM [(2, .int (nI 0)), (1, .int (nI 0)), (0, .ref o)] dX10_reached_3 rfl (by decide) rfl ?_
  have L4 : ∀ (n4 : Nat) (i : Nat) (x : Nat), (i ≤ ns) → (x = nre h tt i) → (ns - i) < n4 → G [(o, .inr (10, [.ref aP, .int (nI pn), .int (nI en), .int (nI ne), .int (nI ns), .int (nI nb), .int (nI na), .int (nI s.1), .int (nI s.2.1), .int (nI s.2.2), .int (nI tm), .int (nI sr), .ref aH, .ref aW, .ref aD, .ref aK, .ref aM, .int (nI tt), .int (nI gg), .int (nI zz), .int (nI fd), .int (nI sn), .ref aG, .int (nI sd), .int (nI kS), .int (nI ks.1), .int (nI ks.2.1), .int (nI ks.2.2), .int (nI ktm), .int (nI ksn), .ref bH, .ref bW, .ref bK, .ref bM, .ref bG, .long hs])), (aH, arC cy 8 h)] [(0, .ref o), (1, .int (nI x)), (2, .int (nI i))] 4 [] := by
    intro n4
    induction n4 with
    | zero => intro i x hi hx hm4; exact absurd hm4 (Nat.not_lt_zero _)
    | succ n4 ih4 =>
      intro i x hi hx hm4
      refine j_iload_n (pc := 4) hM dX10_reached_4 rfl 2 rfl ?_
      refine j_aload_n (pc := 5) hM dX10_reached_5 rfl 0 rfl ?_
      refine j_get (pc := 6) hM fd_X10_90 0 rfl rfl dX10_reached_6 ?_
      refine j_icmp_ge (pc := 9) hM 34 dX10_reached_9 (by decide) (cLE (by omega) (by omega)) (fun c9 => ?_) (fun c9 => ?_)
      · skip
        refine j_iload_n (pc := 34) hM dX10_reached_34 rfl 1 rfl ?_
        exact hret () _ _ _ _ trivial rfl (sI (show x = (nre h tt ns) from by rw [hx, show i = ns by omega])) rfl dX10_reached_35
      · skip
        refine j_iload_n (pc := 12) hM dX10_reached_12 rfl 1 rfl ?_
        refine j_aload_n (pc := 13) hM dX10_reached_13 rfl 0 rfl ?_
        refine j_iload_n (pc := 14) hM dX10_reached_14 rfl 2 rfl ?_
        refine j_callV (pc := 15) hM cv_X10_130 (As := [.int (nI i)]) (rest := [.int (nI x)]) (b := o) (c_X10_reachesThen l D cy o aP aH aW aD aK aM aG bH bW bK bM bG pn en ne ns nb na tm sr fd sn sd kS ktm ksn s ks hs tt gg zz h i hn hh (by first | assumption | omega) ht) ⟨lb rfl, lb rfl, lb rfl, lb rfl⟩ rfl 0 rfl rfl [0, 1] [] [0, 1] [] (fun _ => [(o, .inr (10, [.ref aP, .int (nI pn), .int (nI en), .int (nI ne), .int (nI ns), .int (nI nb), .int (nI na), .int (nI s.1), .int (nI s.2.1), .int (nI s.2.2), .int (nI tm), .int (nI sr), .ref aH, .ref aW, .ref aD, .ref aK, .ref aM, .int (nI tt), .int (nI gg), .int (nI zz), .int (nI fd), .int (nI sn), .ref aG, .int (nI sd), .int (nI kS), .int (nI ks.1), .int (nI ks.2.1), .int (nI ks.2.2), .int (nI ktm), .int (nI ksn), .ref bH, .ref bW, .ref bK, .ref bM, .ref bG, .long hs])), (aH, arC cy 8 h)]) rfl (by decide) rfl (by decide) (by decide) (by decide) (fun _ => rfl) (lb rfl) dX10_reached_15 hM.two (fun _ _ => ?_)
        show G [(o, .inr (10, [.ref aP, .int (nI pn), .int (nI en), .int (nI ne), .int (nI ns), .int (nI nb), .int (nI na), .int (nI s.1), .int (nI s.2.1), .int (nI s.2.2), .int (nI tm), .int (nI sr), .ref aH, .ref aW, .ref aD, .ref aK, .ref aM, .int (nI tt), .int (nI gg), .int (nI zz), .int (nI fd), .int (nI sn), .ref aG, .int (nI sd), .int (nI kS), .int (nI ks.1), .int (nI ks.2.1), .int (nI ks.2.2), .int (nI ktm), .int (nI ksn), .ref bH, .ref bW, .ref bK, .ref bM, .ref bG, .long hs])), (aH, arC cy 8 h)] [(0, .ref o), (1, .int (nI x)), (2, .int (nI i))] 18 [.int (nI (if mx h (i + 1) < tt then 1 else 0)), .int (nI x)]
        refine j_if_eqB (pc := 18) (P := (mx h (i + 1) < tt)) hM 25 dX10_reached_18 (by decide) b0_eq (fun c18 => ?_) (fun c18 => ?_)
        · skip
          refine j_iconst (pc := 25) hM (v := nI 0) dX10_reached_25 (by decide) ?_
          refine j_iadd (pc := 26) hM (v := nI (x + 0)) dX10_reached_26 (nI_add _ _) ?_
          refine j_istore_n (pc := 27) hM [(1, .int (nI (x + 0))), (0, .ref o), (2, .int (nI i))] dX10_reached_27 rfl (by decide) rfl ?_
          refine j_iinc (pc := 28) hM (n' := 2) [(2, .int (nI (i + 1))), (1, .int (nI (x + 0))), (0, .ref o)] dX10_reached_28 rfl (nI_add _ 1) (by decide) rfl ?_
          refine j_goto (pc := 31) hM 4 dX10_reached_31 (by decide) ?_
          refine j_lv (pc := 4) hM [2, 1, 0] rfl ?_
          exact ih4 (i + 1) (x + 0) (by omega) (by rw [hx]; simp [nre, c18]) (by omega)
        · skip
          refine j_iconst (pc := 21) hM (v := nI 1) dX10_reached_21 (by decide) ?_
          refine j_goto (pc := 22) hM 26 dX10_reached_22 (by decide) ?_
          refine j_iadd (pc := 26) hM (v := nI (x + 1)) dX10_reached_26 (nI_add _ _) ?_
          refine j_istore_n (pc := 27) hM [(1, .int (nI (x + 1))), (0, .ref o), (2, .int (nI i))] dX10_reached_27 rfl (by decide) rfl ?_
          refine j_iinc (pc := 28) hM (n' := 2) [(2, .int (nI (i + 1))), (1, .int (nI (x + 1))), (0, .ref o)] dX10_reached_28 rfl (nI_add _ 1) (by decide) rfl ?_
          refine j_goto (pc := 31) hM 4 dX10_reached_31 (by decide) ?_
          refine j_lv (pc := 4) hM [2, 1, 0] rfl ?_
          exact ih4 (i + 1) (x + 1) (by omega) (by rw [hx]; simp [nre, c18]) (by omega)
  refine j_lv (pc := 4) hM [2, 1, 0] rfl ?_
  exact L4 _ 0 0 (by omega) rfl (Nat.lt_succ_self _)
set_option maxHeartbeats 4000000 in
set_option maxRecDepth 100000 in
theorem c_X10_boatsAt (l : Launch) (D : va_G) (cy : ClassId) (o : Nat) (aP : Nat) (aH : Nat) (aW : Nat) (aD : Nat) (aK : Nat) (aM : Nat) (aG : Nat) (bH : Nat) (bW : Nat) (bK : Nat) (bM : Nat) (bG : Nat) (pn : Nat) (en : Nat) (ne : Nat) (ns : Nat) (nb : Nat) (na : Nat) (tm : Nat) (sr : Nat) (fd : Nat) (sn : Nat) (sd : Nat) (kS : Nat) (ktm : Nat) (ksn : Nat) (s : S3) (st : S3) (ks : S3) (hs : Int64) (w : Nat → Nat) (c : Nat) (hnb : nb ≤ 3) (hw : ∀ b, b < nb → w b < ns) (hn : ns ≤ 8) (hc : c < ns) : Ct (σ := Unit) l D cy yX10_boatsAt cX10_boatsAt 4 (some .int) { frames := 0, cells := 0, slots := 0, locals := 0 } [.ref o, .int (nI c)] [(o, .inr (10, [.ref aP, .int (nI pn), .int (nI en), .int (nI ne), .int (nI ns), .int (nI nb), .int (nI na), .int (nI s.1), .int (nI s.2.1), .int (nI s.2.2), .int (nI tm), .int (nI sr), .ref aH, .ref aW, .ref aD, .ref aK, .ref aM, .int (nI st.1), .int (nI st.2.1), .int (nI st.2.2), .int (nI fd), .int (nI sn), .ref aG, .int (nI sd), .int (nI kS), .int (nI ks.1), .int (nI ks.2.1), .int (nI ks.2.2), .int (nI ktm), .int (nI ksn), .ref bH, .ref bW, .ref bK, .ref bM, .ref bG, .long hs])), (aW, arC cy 3 w)] (fun _ => True) (fun _ => some (.int (nI (bon w c nb)))) (fun _ => [(o, .inr (10, [.ref aP, .int (nI pn), .int (nI en), .int (nI ne), .int (nI ns), .int (nI nb), .int (nI na), .int (nI s.1), .int (nI s.2.1), .int (nI s.2.2), .int (nI tm), .int (nI sr), .ref aH, .ref aW, .ref aD, .ref aK, .ref aM, .int (nI st.1), .int (nI st.2.1), .int (nI st.2.2), .int (nI fd), .int (nI sn), .ref aG, .int (nI sd), .int (nI kS), .int (nI ks.1), .int (nI ks.2.1), .int (nI ks.2.2), .int (nI ktm), .int (nI ksn), .ref bH, .ref bW, .ref bK, .ref bM, .ref bG, .long hs])), (aW, arC cy 3 w)]) := by
  refine Ct_ofI (by decide) (lb rfl) [(0, .ref o), (1, .int (nI c))] rfl (fun G hM hret => ?_)
  refine j_iconst (pc := 0) hM (v := nI 0) dX10_boatsAt_0 (by decide) ?_
  refine j_istore_n (pc := 1) hM [(2, .int (nI 0)), (0, .ref o), (1, .int (nI c))] dX10_boatsAt_1 rfl (by decide) rfl ?_
  refine j_iconst (pc := 2) hM (v := nI 0) dX10_boatsAt_2 (by decide) ?_
  refine j_istore_n (pc := 3) hM [(3, .int (nI 0)), (2, .int (nI 0)), (0, .ref o), (1, .int (nI c))] dX10_boatsAt_3 rfl (by decide) rfl ?_
  have L4 : ∀ (n4 : Nat) (i : Nat) (x : Nat), (i ≤ nb) → (x = bon w c i) → (nb - i) < n4 → G [(o, .inr (10, [.ref aP, .int (nI pn), .int (nI en), .int (nI ne), .int (nI ns), .int (nI nb), .int (nI na), .int (nI s.1), .int (nI s.2.1), .int (nI s.2.2), .int (nI tm), .int (nI sr), .ref aH, .ref aW, .ref aD, .ref aK, .ref aM, .int (nI st.1), .int (nI st.2.1), .int (nI st.2.2), .int (nI fd), .int (nI sn), .ref aG, .int (nI sd), .int (nI kS), .int (nI ks.1), .int (nI ks.2.1), .int (nI ks.2.2), .int (nI ktm), .int (nI ksn), .ref bH, .ref bW, .ref bK, .ref bM, .ref bG, .long hs])), (aW, arC cy 3 w)] [(0, .ref o), (1, .int (nI c)), (2, .int (nI x)), (3, .int (nI i))] 4 [] := by
    intro n4
    induction n4 with
    | zero => intro i x hi hx hm4; exact absurd hm4 (Nat.not_lt_zero _)
    | succ n4 ih4 =>
      intro i x hi hx hm4
      refine j_iload_n (pc := 4) hM dX10_boatsAt_4 rfl 3 rfl ?_
      refine j_aload_n (pc := 5) hM dX10_boatsAt_5 rfl 0 rfl ?_
      refine j_get (pc := 6) hM fd_X10_93 0 rfl rfl dX10_boatsAt_6 ?_
      refine j_icmp_ge (pc := 9) hM 38 dX10_boatsAt_9 (by decide) (cLE (by omega) (by omega)) (fun c9 => ?_) (fun c9 => ?_)
      · skip
        refine j_iload_n (pc := 38) hM dX10_boatsAt_38 rfl 2 rfl ?_
        exact hret () _ _ _ _ trivial rfl (sI (show x = (bon w c nb) from by rw [hx, show i = nb by omega])) rfl dX10_boatsAt_39
      · skip
        refine j_iload_n (pc := 12) hM dX10_boatsAt_12 rfl 2 rfl ?_
        refine j_aload_n (pc := 13) hM dX10_boatsAt_13 rfl 0 rfl ?_
        refine j_get (pc := 14) hM fd_X10_16 0 rfl rfl dX10_boatsAt_14 ?_
        refine j_iload_n (pc := 17) hM dX10_boatsAt_17 rfl 3 rfl ?_
        refine j_ldN (pc := 18) hM (v := w i) 1 rfl (by omega) (by decide) rfl dX10_boatsAt_18 ?_
        have b18 := hw i (by omega)
        refine j_iload_n (pc := 19) hM dX10_boatsAt_19 rfl 1 rfl ?_
        refine j_icmp_ne (pc := 20) hM 29 dX10_boatsAt_20 (by decide) (cEQ (by omega) (by omega)) (fun c20 => ?_) (fun c20 => ?_)
        · skip
          refine j_iconst (pc := 29) hM (v := nI 0) dX10_boatsAt_29 (by decide) ?_
          refine j_ior (pc := 30) hM (v := nI (x ||| 0)) dX10_boatsAt_30 (nor _ _) ?_
          refine j_istore_n (pc := 31) hM [(2, .int (nI (x ||| 0))), (0, .ref o), (1, .int (nI c)), (3, .int (nI i))] dX10_boatsAt_31 rfl (by decide) rfl ?_
          refine j_iinc (pc := 32) hM (n' := 3) [(3, .int (nI (i + 1))), (2, .int (nI (x ||| 0))), (0, .ref o), (1, .int (nI c))] dX10_boatsAt_32 rfl (nI_add _ 1) (by decide) rfl ?_
          refine j_goto (pc := 35) hM 4 dX10_boatsAt_35 (by decide) ?_
          refine j_lv (pc := 4) hM [2, 3, 1, 0] rfl ?_
          exact ih4 (i + 1) (x ||| 0) (by omega) (by rw [hx]; simp [bon, c20]) (by omega)
        · skip
          refine j_iconst (pc := 23) hM (v := nI 1) dX10_boatsAt_23 (by decide) ?_
          refine j_iload_n (pc := 24) hM dX10_boatsAt_24 rfl 3 rfl ?_
          refine j_ishl (pc := 25) hM (v := nI (1 * 2 ^ i)) dX10_boatsAt_25 (nshl (by omega) (by have := Nat.pow_le_pow_right (show 0 < 2 by decide) (show i ≤ 3 by omega); omega)) ?_
          refine j_goto (pc := 26) hM 30 dX10_boatsAt_26 (by decide) ?_
          refine j_ior (pc := 30) hM (v := nI (x ||| (1 * 2 ^ i))) dX10_boatsAt_30 (nor _ _) ?_
          refine j_istore_n (pc := 31) hM [(2, .int (nI (x ||| (1 * 2 ^ i)))), (0, .ref o), (1, .int (nI c)), (3, .int (nI i))] dX10_boatsAt_31 rfl (by decide) rfl ?_
          refine j_iinc (pc := 32) hM (n' := 3) [(3, .int (nI (i + 1))), (2, .int (nI (x ||| (1 * 2 ^ i)))), (0, .ref o), (1, .int (nI c))] dX10_boatsAt_32 rfl (nI_add _ 1) (by decide) rfl ?_
          refine j_goto (pc := 35) hM 4 dX10_boatsAt_35 (by decide) ?_
          refine j_lv (pc := 4) hM [2, 3, 1, 0] rfl ?_
          exact ih4 (i + 1) (x ||| (1 * 2 ^ i)) (by omega) (by rw [hx]; simp [bon, c20]) (by omega)
  refine j_lv (pc := 4) hM [2, 3, 1, 0] rfl ?_
  exact L4 _ 0 0 (by omega) rfl (Nat.lt_succ_self _)
set_option maxHeartbeats 4000000 in
set_option maxRecDepth 100000 in
theorem c_X10_tellSand (l : Launch) (D : va_G) (cy : ClassId) (o : Nat) (aP : Nat) (aH : Nat) (aW : Nat) (aD : Nat) (aK : Nat) (aM : Nat) (aG : Nat) (bH : Nat) (bW : Nat) (bK : Nat) (bM : Nat) (bG : Nat) (pn : Nat) (en : Nat) (ne : Nat) (ns : Nat) (nb : Nat) (na : Nat) (tm : Nat) (sr : Nat) (fd : Nat) (sn : Nat) (sd : Nat) (kS : Nat) (ktm : Nat) (ksn : Nat) (s : S3) (st : S3) (ks : S3) (hs : Int64) (h : Nat → Nat) (w : Nat → Nat) (d : Nat → Nat) (a : Nat) (y : Int32) (ok : okB ns nb h w d) (oks : okS s) (ha : a < ns) : Ct (σ := Unit) l D cy yX10_tellSand cX10_tellSand 3 (some .int) { frames := 1, cells := 0, slots := 0, locals := 23 } [.ref o, .int (nI a), .int y] [(o, .inr (10, [.ref aP, .int (nI pn), .int (nI en), .int (nI ne), .int (nI ns), .int (nI nb), .int (nI na), .int (nI s.1), .int (nI s.2.1), .int (nI s.2.2), .int (nI tm), .int (nI sr), .ref aH, .ref aW, .ref aD, .ref aK, .ref aM, .int (nI st.1), .int (nI st.2.1), .int (nI st.2.2), .int (nI fd), .int (nI sn), .ref aG, .int (nI sd), .int (nI kS), .int (nI ks.1), .int (nI ks.2.1), .int (nI ks.2.2), .int (nI ktm), .int (nI ksn), .ref bH, .ref bW, .ref bK, .ref bM, .ref bG, .long hs])), (aH, arC cy 8 h), (aW, arC cy 3 w)] (fun _ => True) (fun _ => some (.int (sandT nb h w s.1 a y))) (fun _ => [(o, .inr (10, [.ref aP, .int (nI pn), .int (nI en), .int (nI ne), .int (nI ns), .int (nI nb), .int (nI na), .int (nI s.1), .int (nI s.2.1), .int (nI s.2.2), .int (nI tm), .int (nI sr), .ref aH, .ref aW, .ref aD, .ref aK, .ref aM, .int (nI s.1), .int (nI s.2.1), .int (nI s.2.2), .int (nI fd), .int (nI sn), .ref aG, .int (nI sd), .int (nI kS), .int (nI ks.1), .int (nI ks.2.1), .int (nI ks.2.2), .int (nI ktm), .int (nI ksn), .ref bH, .ref bW, .ref bK, .ref bM, .ref bG, .long hs])), (aH, arC cy 8 h), (aW, arC cy 3 w)]) := by
  refine Ct_ofI (by decide) (lb rfl) [(0, .ref o), (1, .int (nI a)), (2, .int y)] rfl (fun G hM hret => ?_)
  obtain ⟨zb, zb2, zh, zw, zd⟩ := ok
  obtain ⟨o1, o2, o3⟩ := oks
  refine j_aload_n (pc := 0) hM dX10_tellSand_0 rfl 0 rfl ?_
  refine j_callV (pc := 1) hM cv_X10_136 (As := []) (rest := []) (b := o) (c_X10_begin l D cy o aP aH aW aD aK aM aG bH bW bK bM bG pn en ne ns nb na tm sr fd sn sd kS ktm ksn s st ks hs) ⟨lb rfl, lb rfl, lb rfl, lb rfl⟩ rfl 0 rfl rfl [0] [1, 2] [2, 0, 1] [(aH, arC cy 8 h), (aW, arC cy 3 w)] (fun _ => [(o, .inr (10, [.ref aP, .int (nI pn), .int (nI en), .int (nI ne), .int (nI ns), .int (nI nb), .int (nI na), .int (nI s.1), .int (nI s.2.1), .int (nI s.2.2), .int (nI tm), .int (nI sr), .ref aH, .ref aW, .ref aD, .ref aK, .ref aM, .int (nI s.1), .int (nI s.2.1), .int (nI s.2.2), .int (nI fd), .int (nI sn), .ref aG, .int (nI sd), .int (nI kS), .int (nI ks.1), .int (nI ks.2.1), .int (nI ks.2.2), .int (nI ktm), .int (nI ksn), .ref bH, .ref bW, .ref bK, .ref bM, .ref bG, .long hs])), (aH, arC cy 8 h), (aW, arC cy 3 w)]) rfl (by decide) rfl (by decide) (by decide) (by decide) (fun _ => rfl) (lb rfl) dX10_tellSand_1 hM.two (fun _ _ => ?_)
  show G [(o, .inr (10, [.ref aP, .int (nI pn), .int (nI en), .int (nI ne), .int (nI ns), .int (nI nb), .int (nI na), .int (nI s.1), .int (nI s.2.1), .int (nI s.2.2), .int (nI tm), .int (nI sr), .ref aH, .ref aW, .ref aD, .ref aK, .ref aM, .int (nI s.1), .int (nI s.2.1), .int (nI s.2.2), .int (nI fd), .int (nI sn), .ref aG, .int (nI sd), .int (nI kS), .int (nI ks.1), .int (nI ks.2.1), .int (nI ks.2.2), .int (nI ktm), .int (nI ksn), .ref bH, .ref bW, .ref bK, .ref bM, .ref bG, .long hs])), (aH, arC cy 8 h), (aW, arC cy 3 w)] [(0, .ref o), (1, .int (nI a)), (2, .int y)] 4 []
  refine j_iload_n (pc := 4) hM dX10_tellSand_4 rfl 2 rfl ?_
  rcases (show (y.toInt) = 0 ∨ (y.toInt) = 1 ∨ (y.toInt) = 2 ∨ ((y.toInt) < 0 ∨ 2 < (y.toInt)) by omega) with s5 | s5 | s5 | s5
  · skip
    refine j_tsZ (pc := 5) hM 0 32 dX10_tellSand_5 s5 (by decide) (by decide) rfl (by decide) ?_
    refine j_aload_n (pc := 32) hM dX10_tellSand_32 rfl 0 rfl ?_
    refine j_get (pc := 33) hM fd_X10_13 0 rfl rfl dX10_tellSand_33 ?_
    refine j_iload_n (pc := 36) hM dX10_tellSand_36 rfl 1 rfl ?_
    refine j_ldN (pc := 37) hM (v := h a) 1 rfl (by omega) (by decide) rfl dX10_tellSand_37 ?_
    exact hret () _ _ _ _ trivial rfl (show some (Value.int (nI (h a))) = some (Value.int (sandT nb h w s.1 a y)) from by simp only [sandT]; rw [if_pos s5]) rfl dX10_tellSand_38
  · skip
    refine j_tsZ (pc := 5) hM 1 39 dX10_tellSand_5 s5 (by decide) (by decide) rfl (by decide) ?_
    refine j_aload_n (pc := 39) hM dX10_tellSand_39 rfl 0 rfl ?_
    refine j_iload_n (pc := 40) hM dX10_tellSand_40 rfl 1 rfl ?_
    refine j_callV (pc := 41) hM cv_X10_130 (As := [.int (nI a)]) (rest := []) (b := o) (c_X10_reachesThen l D cy o aP aH aW aD aK aM aG bH bW bK bM bG pn en ne ns nb na tm sr fd sn sd kS ktm ksn s ks hs s.1 s.2.1 s.2.2 h a zb zh (by first | assumption | omega) (by omega)) ⟨lb rfl, lb rfl, lb rfl, lb rfl⟩ rfl 0 rfl rfl [0, 1] [2] [1, 2, 0] [(aW, arC cy 3 w)] (fun _ => [(o, .inr (10, [.ref aP, .int (nI pn), .int (nI en), .int (nI ne), .int (nI ns), .int (nI nb), .int (nI na), .int (nI s.1), .int (nI s.2.1), .int (nI s.2.2), .int (nI tm), .int (nI sr), .ref aH, .ref aW, .ref aD, .ref aK, .ref aM, .int (nI s.1), .int (nI s.2.1), .int (nI s.2.2), .int (nI fd), .int (nI sn), .ref aG, .int (nI sd), .int (nI kS), .int (nI ks.1), .int (nI ks.2.1), .int (nI ks.2.2), .int (nI ktm), .int (nI ksn), .ref bH, .ref bW, .ref bK, .ref bM, .ref bG, .long hs])), (aH, arC cy 8 h), (aW, arC cy 3 w)]) rfl (by decide) rfl (by decide) (by decide) (by decide) (fun _ => rfl) (lb rfl) dX10_tellSand_41 hM.two (fun _ _ => ?_)
    show G [(o, .inr (10, [.ref aP, .int (nI pn), .int (nI en), .int (nI ne), .int (nI ns), .int (nI nb), .int (nI na), .int (nI s.1), .int (nI s.2.1), .int (nI s.2.2), .int (nI tm), .int (nI sr), .ref aH, .ref aW, .ref aD, .ref aK, .ref aM, .int (nI s.1), .int (nI s.2.1), .int (nI s.2.2), .int (nI fd), .int (nI sn), .ref aG, .int (nI sd), .int (nI kS), .int (nI ks.1), .int (nI ks.2.1), .int (nI ks.2.2), .int (nI ktm), .int (nI ksn), .ref bH, .ref bW, .ref bK, .ref bM, .ref bG, .long hs])), (aH, arC cy 8 h), (aW, arC cy 3 w)] [(0, .ref o), (1, .int (nI a)), (2, .int y)] 44 [.int (nI (if mx h (a + 1) < s.1 then 1 else 0))]
    refine j_if_eqB (pc := 44) (P := (mx h (a + 1) < s.1)) hM 51 dX10_tellSand_44 (by decide) b0_eq (fun c44 => ?_) (fun c44 => ?_)
    · skip
      refine j_iconst (pc := 51) hM (v := nI 0) dX10_tellSand_51 (by decide) ?_
      exact hret () _ _ _ _ trivial rfl (show some (Value.int (nI 0)) = some (Value.int (sandT nb h w s.1 a y)) from by simp only [sandT]; rw [if_neg (by omega), if_pos s5]; first | rw [if_pos c44] | rw [if_neg c44]) rfl dX10_tellSand_52
    · skip
      refine j_iconst (pc := 47) hM (v := nI 1) dX10_tellSand_47 (by decide) ?_
      refine j_goto (pc := 48) hM 52 dX10_tellSand_48 (by decide) ?_
      exact hret () _ _ _ _ trivial rfl (show some (Value.int (nI 1)) = some (Value.int (sandT nb h w s.1 a y)) from by simp only [sandT]; rw [if_neg (by omega), if_pos s5]; first | rw [if_pos c44] | rw [if_neg c44]) rfl dX10_tellSand_52
  · skip
    refine j_tsZ (pc := 5) hM 2 53 dX10_tellSand_5 s5 (by decide) (by decide) rfl (by decide) ?_
    refine j_aload_n (pc := 53) hM dX10_tellSand_53 rfl 0 rfl ?_
    refine j_iload_n (pc := 54) hM dX10_tellSand_54 rfl 1 rfl ?_
    refine j_callV (pc := 55) hM cv_X10_139 (As := [.int (nI a)]) (rest := []) (b := o) (c_X10_boatsAt l D cy o aP aH aW aD aK aM aG bH bW bK bM bG pn en ne ns nb na tm sr fd sn sd kS ktm ksn s s ks hs w a zb2 zw zb (by first | assumption | omega)) ⟨lb rfl, lb rfl, lb rfl, lb rfl⟩ rfl 0 rfl rfl [0, 2] [1] [1, 0, 2] [(aH, arC cy 8 h)] (fun _ => [(o, .inr (10, [.ref aP, .int (nI pn), .int (nI en), .int (nI ne), .int (nI ns), .int (nI nb), .int (nI na), .int (nI s.1), .int (nI s.2.1), .int (nI s.2.2), .int (nI tm), .int (nI sr), .ref aH, .ref aW, .ref aD, .ref aK, .ref aM, .int (nI s.1), .int (nI s.2.1), .int (nI s.2.2), .int (nI fd), .int (nI sn), .ref aG, .int (nI sd), .int (nI kS), .int (nI ks.1), .int (nI ks.2.1), .int (nI ks.2.2), .int (nI ktm), .int (nI ksn), .ref bH, .ref bW, .ref bK, .ref bM, .ref bG, .long hs])), (aH, arC cy 8 h), (aW, arC cy 3 w)]) rfl (by decide) rfl (by decide) (by decide) (by decide) (fun _ => rfl) (lb rfl) dX10_tellSand_55 hM.two (fun _ _ => ?_)
    show G [(o, .inr (10, [.ref aP, .int (nI pn), .int (nI en), .int (nI ne), .int (nI ns), .int (nI nb), .int (nI na), .int (nI s.1), .int (nI s.2.1), .int (nI s.2.2), .int (nI tm), .int (nI sr), .ref aH, .ref aW, .ref aD, .ref aK, .ref aM, .int (nI s.1), .int (nI s.2.1), .int (nI s.2.2), .int (nI fd), .int (nI sn), .ref aG, .int (nI sd), .int (nI kS), .int (nI ks.1), .int (nI ks.2.1), .int (nI ks.2.2), .int (nI ktm), .int (nI ksn), .ref bH, .ref bW, .ref bK, .ref bM, .ref bG, .long hs])), (aH, arC cy 8 h), (aW, arC cy 3 w)] [(0, .ref o), (1, .int (nI a)), (2, .int y)] 58 [.int (nI (bon w a nb))]
    exact hret () _ _ _ _ trivial rfl (show some (Value.int (nI (bon w a nb))) = some (Value.int (sandT nb h w s.1 a y)) from by simp only [sandT]; rw [if_neg (by omega), if_neg (by omega), if_pos s5]) rfl dX10_tellSand_58
  · skip
    refine j_tsOut (pc := 5) hM 59 dX10_tellSand_5 (by omega) (by decide) ?_
    refine j_bipush (pc := 59) hM (v := (-102)) dX10_tellSand_59 (by decide) ?_
    exact hret () _ _ _ _ trivial rfl (show some (Value.int (-102)) = some (Value.int (sandT nb h w s.1 a y)) from by simp only [sandT]; rw [if_neg (by omega), if_neg (by omega), if_neg (by omega)]) rfl dX10_tellSand_61
set_option maxHeartbeats 4000000 in
set_option maxRecDepth 100000 in
theorem c_X10_sand (l : Launch) (D : va_G) (cy : ClassId) (o : Nat) (aP : Nat) (aH : Nat) (aW : Nat) (aD : Nat) (aK : Nat) (aM : Nat) (aG : Nat) (bH : Nat) (bW : Nat) (bK : Nat) (bM : Nat) (bG : Nat) (pn : Nat) (en : Nat) (ne : Nat) (ns : Nat) (nb : Nat) (na : Nat) (tm : Nat) (sr : Nat) (fd : Nat) (sn : Nat) (sd : Nat) (kS : Nat) (ktm : Nat) (ksn : Nat) (s : S3) (st : S3) (ks : S3) (hs : Int64) (h : Nat → Nat) (w : Nat → Nat) (d : Nat → Nat) (x : Int32) (y : Int32) (ok : okB ns nb h w d) (oks : okS s) : Ct (σ := S3) l D cy yX10_sand cX10_sand 3 (some .int) { frames := 2, cells := 0, slots := 0, locals := 46 } [.ref o, .int x, .int y] [(o, .inr (10, [.ref aP, .int (nI pn), .int (nI en), .int (nI ne), .int (nI ns), .int (nI nb), .int (nI na), .int (nI s.1), .int (nI s.2.1), .int (nI s.2.2), .int (nI tm), .int (nI sr), .ref aH, .ref aW, .ref aD, .ref aK, .ref aM, .int (nI st.1), .int (nI st.2.1), .int (nI st.2.2), .int (nI fd), .int (nI sn), .ref aG, .int (nI sd), .int (nI kS), .int (nI ks.1), .int (nI ks.2.1), .int (nI ks.2.2), .int (nI ktm), .int (nI ksn), .ref bH, .ref bW, .ref bK, .ref bM, .ref bG, .long hs])), (aH, arC cy 8 h), (aW, arC cy 3 w)] (fun u => True) (fun u => some (.int (sandA ns nb h w s.1 x y))) (fun u => [(o, .inr (10, [.ref aP, .int (nI pn), .int (nI en), .int (nI ne), .int (nI ns), .int (nI nb), .int (nI na), .int (nI s.1), .int (nI s.2.1), .int (nI s.2.2), .int (nI tm), .int (nI sr), .ref aH, .ref aW, .ref aD, .ref aK, .ref aM, .int (nI u.1), .int (nI u.2.1), .int (nI u.2.2), .int (nI fd), .int (nI sn), .ref aG, .int (nI sd), .int (nI kS), .int (nI ks.1), .int (nI ks.2.1), .int (nI ks.2.2), .int (nI ktm), .int (nI ksn), .ref bH, .ref bW, .ref bK, .ref bM, .ref bG, .long hs])), (aH, arC cy 8 h), (aW, arC cy 3 w)]) := by
  refine Ct_ofI (by decide) (lb rfl) [(0, .ref o), (1, .int x), (2, .int y)] rfl (fun G hM hret => ?_)
  have zb := ok.1
  refine j_aload_n (pc := 0) hM dX10_sand_0 rfl 0 rfl ?_
  refine j_iload_n (pc := 1) hM dX10_sand_1 rfl 1 rfl ?_
  refine j_callV (pc := 2) hM cv_X10_142 (As := [.int x]) (rest := []) (b := o) (c_X10_isSand l D cy o aP aH aW aD aK aM aG bH bW bK bM bG pn en ne ns nb na tm sr fd sn sd kS ktm ksn s st ks hs x (by first | assumption | omega)) ⟨lb rfl, lb rfl, lb rfl, lb rfl⟩ rfl 0 rfl rfl [0] [1, 2] [2, 0, 1] [(aH, arC cy 8 h), (aW, arC cy 3 w)] (fun _ => [(o, .inr (10, [.ref aP, .int (nI pn), .int (nI en), .int (nI ne), .int (nI ns), .int (nI nb), .int (nI na), .int (nI s.1), .int (nI s.2.1), .int (nI s.2.2), .int (nI tm), .int (nI sr), .ref aH, .ref aW, .ref aD, .ref aK, .ref aM, .int (nI st.1), .int (nI st.2.1), .int (nI st.2.2), .int (nI fd), .int (nI sn), .ref aG, .int (nI sd), .int (nI kS), .int (nI ks.1), .int (nI ks.2.1), .int (nI ks.2.2), .int (nI ktm), .int (nI ksn), .ref bH, .ref bW, .ref bK, .ref bM, .ref bG, .long hs])), (aH, arC cy 8 h), (aW, arC cy 3 w)]) rfl (by decide) rfl (by decide) (by decide) (by decide) (fun _ => rfl) (lb rfl) dX10_sand_2 hM.two (fun _ _ => ?_)
  show G [(o, .inr (10, [.ref aP, .int (nI pn), .int (nI en), .int (nI ne), .int (nI ns), .int (nI nb), .int (nI na), .int (nI s.1), .int (nI s.2.1), .int (nI s.2.2), .int (nI tm), .int (nI sr), .ref aH, .ref aW, .ref aD, .ref aK, .ref aM, .int (nI st.1), .int (nI st.2.1), .int (nI st.2.2), .int (nI fd), .int (nI sn), .ref aG, .int (nI sd), .int (nI kS), .int (nI ks.1), .int (nI ks.2.1), .int (nI ks.2.2), .int (nI ktm), .int (nI ksn), .ref bH, .ref bW, .ref bK, .ref bM, .ref bG, .long hs])), (aH, arC cy 8 h), (aW, arC cy 3 w)] [(0, .ref o), (1, .int x), (2, .int y)] 5 [.int (nI (if inR x ns then 1 else 0))]
  refine j_if_eqB (pc := 5) (P := (inR x ns)) hM 17 dX10_sand_5 (by decide) b0_eq (fun c5 => ?_) (fun c5 => ?_)
  · skip
    refine j_bipush (pc := 17) hM (v := (-101)) dX10_sand_17 (by decide) ?_
    exact hret st _ _ _ _ trivial rfl (show some (Value.int (-101)) = some (Value.int (sandA ns nb h w s.1 x y)) from by first | rw [sandA_T c5] | (simp only [sandA]; rw [if_neg c5])) rfl dX10_sand_19
  · skip
    have nx : x = nI (xn x) := xnI (by omega)
    have jx := xn_eq (x := x) (by omega)
    rw [nx]
    refine j_aload_n (pc := 8) hM dX10_sand_8 rfl 0 rfl ?_
    refine j_iload_n (pc := 9) hM dX10_sand_9 rfl 1 rfl ?_
    refine j_iload_n (pc := 10) hM dX10_sand_10 rfl 2 rfl ?_
    refine j_callV (pc := 11) hM cv_X10_145 (As := [.int (nI (xn x)), .int y]) (rest := []) (b := o) (c_X10_tellSand l D cy o aP aH aW aD aK aM aG bH bW bK bM bG pn en ne ns nb na tm sr fd sn sd kS ktm ksn s st ks hs h w d (xn x) y ok oks (by omega)) ⟨lb rfl, lb rfl, lb rfl, lb rfl⟩ rfl 0 rfl rfl [0, 1, 2] [] [0, 1, 2] [] (fun _ => [(o, .inr (10, [.ref aP, .int (nI pn), .int (nI en), .int (nI ne), .int (nI ns), .int (nI nb), .int (nI na), .int (nI s.1), .int (nI s.2.1), .int (nI s.2.2), .int (nI tm), .int (nI sr), .ref aH, .ref aW, .ref aD, .ref aK, .ref aM, .int (nI s.1), .int (nI s.2.1), .int (nI s.2.2), .int (nI fd), .int (nI sn), .ref aG, .int (nI sd), .int (nI kS), .int (nI ks.1), .int (nI ks.2.1), .int (nI ks.2.2), .int (nI ktm), .int (nI ksn), .ref bH, .ref bW, .ref bK, .ref bM, .ref bG, .long hs])), (aH, arC cy 8 h), (aW, arC cy 3 w)]) rfl (by decide) rfl (by decide) (by decide) (by decide) (fun _ => rfl) (lb rfl) dX10_sand_11 hM.two (fun _ _ => ?_)
    show G [(o, .inr (10, [.ref aP, .int (nI pn), .int (nI en), .int (nI ne), .int (nI ns), .int (nI nb), .int (nI na), .int (nI s.1), .int (nI s.2.1), .int (nI s.2.2), .int (nI tm), .int (nI sr), .ref aH, .ref aW, .ref aD, .ref aK, .ref aM, .int (nI s.1), .int (nI s.2.1), .int (nI s.2.2), .int (nI fd), .int (nI sn), .ref aG, .int (nI sd), .int (nI kS), .int (nI ks.1), .int (nI ks.2.1), .int (nI ks.2.2), .int (nI ktm), .int (nI ksn), .ref bH, .ref bW, .ref bK, .ref bM, .ref bG, .long hs])), (aH, arC cy 8 h), (aW, arC cy 3 w)] [(0, .ref o), (1, .int (nI (xn x))), (2, .int y)] 14 [.int (sandT nb h w s.1 (xn x) y)]
    refine j_goto (pc := 14) hM 19 dX10_sand_14 (by decide) ?_
    exact hret s _ _ _ _ trivial rfl (show some (Value.int (sandT nb h w s.1 (xn x) y)) = some (Value.int (sandA ns nb h w s.1 x y)) from by first | rw [sandA_T c5] | (simp only [sandA]; rw [if_neg c5])) rfl dX10_sand_19
set_option maxHeartbeats 4000000 in
set_option maxRecDepth 100000 in
theorem c_X10_leastTide (l : Launch) (D : va_G) (cy : ClassId) (o : Nat) (aP : Nat) (aH : Nat) (aW : Nat) (aD : Nat) (aK : Nat) (aM : Nat) (aG : Nat) (bH : Nat) (bW : Nat) (bK : Nat) (bM : Nat) (bG : Nat) (pn : Nat) (en : Nat) (ne : Nat) (ns : Nat) (nb : Nat) (na : Nat) (tm : Nat) (sr : Nat) (fd : Nat) (sn : Nat) (sd : Nat) (kS : Nat) (ktm : Nat) (ksn : Nat) (s : S3) (ks : S3) (hs : Int64) (tt : Nat) (gg : Nat) (zz : Nat) (h : Nat → Nat) (w : Nat → Nat) (d : Nat → Nat) (b : Nat) (ok : okB ns nb h w d) (hb : b < nb) : Ct (σ := Unit) l D cy yX10_leastTide cX10_leastTide 3 (some .int) { frames := 2, cells := 0, slots := 0, locals := 44 } [.ref o, .int (nI b)] [(o, .inr (10, [.ref aP, .int (nI pn), .int (nI en), .int (nI ne), .int (nI ns), .int (nI nb), .int (nI na), .int (nI s.1), .int (nI s.2.1), .int (nI s.2.2), .int (nI tm), .int (nI sr), .ref aH, .ref aW, .ref aD, .ref aK, .ref aM, .int (nI tt), .int (nI gg), .int (nI zz), .int (nI fd), .int (nI sn), .ref aG, .int (nI sd), .int (nI kS), .int (nI ks.1), .int (nI ks.2.1), .int (nI ks.2.2), .int (nI ktm), .int (nI ksn), .ref bH, .ref bW, .ref bK, .ref bM, .ref bG, .long hs])), (aH, arC cy 8 h), (aW, arC cy 3 w), (aD, arC cy 3 d)] (fun _ => True) (fun _ => some (.int (nI (leastT h w d b)))) (fun _ => [(o, .inr (10, [.ref aP, .int (nI pn), .int (nI en), .int (nI ne), .int (nI ns), .int (nI nb), .int (nI na), .int (nI s.1), .int (nI s.2.1), .int (nI s.2.2), .int (nI tm), .int (nI sr), .ref aH, .ref aW, .ref aD, .ref aK, .ref aM, .int (nI 4294967295), .int (nI gg), .int (nI zz), .int (nI fd), .int (nI sn), .ref aG, .int (nI sd), .int (nI kS), .int (nI ks.1), .int (nI ks.2.1), .int (nI ks.2.2), .int (nI ktm), .int (nI ksn), .ref bH, .ref bW, .ref bK, .ref bM, .ref bG, .long hs])), (aH, arC cy 8 h), (aW, arC cy 3 w), (aD, arC cy 3 d)]) := by
  refine Ct_ofI (by decide) (lb rfl) [(0, .ref o), (1, .int (nI b))] rfl (fun G hM hret => ?_)
  obtain ⟨l1, l2⟩ := leastT_le ok hb
  refine j_iconst (pc := 0) hM (v := nI 0) dX10_leastTide_0 (by decide) ?_
  refine j_istore_n (pc := 1) hM [(2, .int (nI 0)), (0, .ref o), (1, .int (nI b))] dX10_leastTide_1 rfl (by decide) rfl ?_
  refine j_aload_n (pc := 2) hM dX10_leastTide_2 rfl 1 rfl ?_
  refine j_bipush (pc := 3) hM (v := nI 30) dX10_leastTide_3 (by decide) ?_
  refine j_put (pc := 5) hM fp_X10_117 [(o, .inr (10, [.ref aP, .int (nI pn), .int (nI en), .int (nI ne), .int (nI ns), .int (nI nb), .int (nI na), .int (nI s.1), .int (nI s.2.1), .int (nI s.2.2), .int (nI tm), .int (nI sr), .ref aH, .ref aW, .ref aD, .ref aK, .ref aM, .int (nI 30), .int (nI gg), .int (nI zz), .int (nI fd), .int (nI sn), .ref aG, .int (nI sd), .int (nI kS), .int (nI ks.1), .int (nI ks.2.1), .int (nI ks.2.2), .int (nI ktm), .int (nI ksn), .ref bH, .ref bW, .ref bK, .ref bM, .ref bG, .long hs])), (aH, arC cy 8 h), (aW, arC cy 3 w), (aD, arC cy 3 d)] 0 rfl (lb rfl) rfl rfl rfl dX10_leastTide_5 ?_
  have L8 : ∀ (n8 : Nat) (x : Int32) (q : Nat) (y : Nat), (x = nI q - nI 1) → (q ≤ 31) → (y = (if q ≤ 30 then max q (leastT h w d b) else 0)) → q < n8 → G [(o, .inr (10, [.ref aP, .int (nI pn), .int (nI en), .int (nI ne), .int (nI ns), .int (nI nb), .int (nI na), .int (nI s.1), .int (nI s.2.1), .int (nI s.2.2), .int (nI tm), .int (nI sr), .ref aH, .ref aW, .ref aD, .ref aK, .ref aM, .int x, .int (nI gg), .int (nI zz), .int (nI fd), .int (nI sn), .ref aG, .int (nI sd), .int (nI kS), .int (nI ks.1), .int (nI ks.2.1), .int (nI ks.2.2), .int (nI ktm), .int (nI ksn), .ref bH, .ref bW, .ref bK, .ref bM, .ref bG, .long hs])), (aH, arC cy 8 h), (aW, arC cy 3 w), (aD, arC cy 3 d)] [(0, .ref o), (1, .int (nI b)), (2, .int (nI y))] 8 [] := by
    intro n8
    induction n8 with
    | zero => intro x q y hx hq hy hm8; exact absurd hm8 (Nat.not_lt_zero _)
    | succ n8 ih8 =>
      intro x q y hx hq hy hm8
      refine j_aload_n (pc := 8) hM dX10_leastTide_8 rfl 0 rfl ?_
      refine j_get (pc := 9) hM fd_X10_117 0 rfl rfl dX10_leastTide_9 ?_
      refine j_if_lt (pc := 12) (P := q = 0) hM 45 dX10_leastTide_12 (by decide) (m1_lt hx (by omega)) (fun c12 => ?_) (fun c12 => ?_)
      · skip
        refine j_iload_n (pc := 45) hM dX10_leastTide_45 rfl 2 rfl ?_
        exact hret () _ _ _ _ trivial (eq1 (fun (z0 : Int32) => ([(o, .inr (10, [.ref aP, .int (nI pn), .int (nI en), .int (nI ne), .int (nI ns), .int (nI nb), .int (nI na), .int (nI s.1), .int (nI s.2.1), .int (nI s.2.2), .int (nI tm), .int (nI sr), .ref aH, .ref aW, .ref aD, .ref aK, .ref aM, .int z0, .int (nI gg), .int (nI zz), .int (nI fd), .int (nI sn), .ref aG, .int (nI sd), .int (nI kS), .int (nI ks.1), .int (nI ks.2.1), .int (nI ks.2.2), .int (nI ktm), .int (nI ksn), .ref bH, .ref bW, .ref bK, .ref bM, .ref bG, .long hs])), (aH, arC cy 8 h), (aW, arC cy 3 w), (aD, arC cy 3 d)] : va_W)) (show x = (nI 4294967295) from by rw [hx, c12]; decide)) (sI (show y = (leastT h w d b) from by rw [hy, if_pos (by omega)]; omega)) rfl dX10_leastTide_46
      · skip
        have hx2 : x = nI (q - 1) := by rw [hx, nsub (by omega)]
        subst hx2
        refine j_aload_n (pc := 15) hM dX10_leastTide_15 rfl 0 rfl ?_
        refine j_iload_n (pc := 16) hM dX10_leastTide_16 rfl 1 rfl ?_
        refine j_callV (pc := 17) hM cv_X10_133 (As := [.int (nI b)]) (rest := []) (b := o) (c_X10_floatsThen l D cy o aP aH aW aD aK aM aG bH bW bK bM bG pn en ne ns nb na tm sr fd sn sd kS ktm ksn s ks hs (q - 1) gg zz h w d b ok hb (by omega)) ⟨lb rfl, lb rfl, lb rfl, lb rfl⟩ rfl 0 rfl rfl [0, 1, 2, 3] [] [0, 1, 2, 3] [] (fun _ => [(o, .inr (10, [.ref aP, .int (nI pn), .int (nI en), .int (nI ne), .int (nI ns), .int (nI nb), .int (nI na), .int (nI s.1), .int (nI s.2.1), .int (nI s.2.2), .int (nI tm), .int (nI sr), .ref aH, .ref aW, .ref aD, .ref aK, .ref aM, .int (nI (q - 1)), .int (nI gg), .int (nI zz), .int (nI fd), .int (nI sn), .ref aG, .int (nI sd), .int (nI kS), .int (nI ks.1), .int (nI ks.2.1), .int (nI ks.2.2), .int (nI ktm), .int (nI ksn), .ref bH, .ref bW, .ref bK, .ref bM, .ref bG, .long hs])), (aH, arC cy 8 h), (aW, arC cy 3 w), (aD, arC cy 3 d)]) rfl (by decide) rfl (by decide) (by decide) (by decide) (fun _ => rfl) (lb rfl) dX10_leastTide_17 hM.two (fun _ _ => ?_)
        show G [(o, .inr (10, [.ref aP, .int (nI pn), .int (nI en), .int (nI ne), .int (nI ns), .int (nI nb), .int (nI na), .int (nI s.1), .int (nI s.2.1), .int (nI s.2.2), .int (nI tm), .int (nI sr), .ref aH, .ref aW, .ref aD, .ref aK, .ref aM, .int (nI (q - 1)), .int (nI gg), .int (nI zz), .int (nI fd), .int (nI sn), .ref aG, .int (nI sd), .int (nI kS), .int (nI ks.1), .int (nI ks.2.1), .int (nI ks.2.2), .int (nI ktm), .int (nI ksn), .ref bH, .ref bW, .ref bK, .ref bM, .ref bG, .long hs])), (aH, arC cy 8 h), (aW, arC cy 3 w), (aD, arC cy 3 d)] [(0, .ref o), (1, .int (nI b)), (2, .int (nI y))] 20 [.int (nI (if leastT h w d b ≤ (q - 1) then 1 else 0))]
        refine j_if_eqB (pc := 20) (P := (leastT h w d b ≤ (q - 1))) hM 30 dX10_leastTide_20 (by decide) b0_eq (fun c20 => ?_) (fun c20 => ?_)
        · skip
          refine j_iload_n (pc := 30) hM dX10_leastTide_30 rfl 2 rfl ?_
          refine j_istore_n (pc := 31) hM [(2, .int (nI y)), (0, .ref o), (1, .int (nI b))] dX10_leastTide_31 rfl (by decide) rfl ?_
          refine j_aload_n (pc := 32) hM dX10_leastTide_32 rfl 1 rfl ?_
          refine j_dup (pc := 33) hM dX10_leastTide_33 rfl ?_
          refine j_get (pc := 34) hM fd_X10_117 0 rfl rfl dX10_leastTide_34 ?_
          refine j_iconst (pc := 37) hM (v := nI 1) dX10_leastTide_37 (by decide) ?_
          refine j_isub (pc := 38) hM (v := (nI (q - 1)) - (nI 1)) dX10_leastTide_38 rfl ?_
          refine j_put (pc := 39) hM fp_X10_117 [(o, .inr (10, [.ref aP, .int (nI pn), .int (nI en), .int (nI ne), .int (nI ns), .int (nI nb), .int (nI na), .int (nI s.1), .int (nI s.2.1), .int (nI s.2.2), .int (nI tm), .int (nI sr), .ref aH, .ref aW, .ref aD, .ref aK, .ref aM, .int ((nI (q - 1)) - (nI 1)), .int (nI gg), .int (nI zz), .int (nI fd), .int (nI sn), .ref aG, .int (nI sd), .int (nI kS), .int (nI ks.1), .int (nI ks.2.1), .int (nI ks.2.2), .int (nI ktm), .int (nI ksn), .ref bH, .ref bW, .ref bK, .ref bM, .ref bG, .long hs])), (aH, arC cy 8 h), (aW, arC cy 3 w), (aD, arC cy 3 d)] 0 rfl (lb rfl) rfl rfl rfl dX10_leastTide_39 ?_
          refine j_goto (pc := 42) hM 8 dX10_leastTide_42 (by decide) ?_
          refine j_lv (pc := 8) hM [1, 2, 0] rfl ?_
          exact ih8 ((nI (q - 1)) - (nI 1)) (q - 1) y rfl (by omega) (by rw [if_pos (by omega)]; first | omega | (rw [hy]; split <;> omega)) (by omega)
        · skip
          refine j_aload_n (pc := 23) hM dX10_leastTide_23 rfl 0 rfl ?_
          refine j_get (pc := 24) hM fd_X10_117 0 rfl rfl dX10_leastTide_24 ?_
          refine j_goto (pc := 27) hM 31 dX10_leastTide_27 (by decide) ?_
          refine j_istore_n (pc := 31) hM [(2, .int (nI (q - 1))), (0, .ref o), (1, .int (nI b))] dX10_leastTide_31 rfl (by decide) rfl ?_
          refine j_aload_n (pc := 32) hM dX10_leastTide_32 rfl 1 rfl ?_
          refine j_dup (pc := 33) hM dX10_leastTide_33 rfl ?_
          refine j_get (pc := 34) hM fd_X10_117 0 rfl rfl dX10_leastTide_34 ?_
          refine j_iconst (pc := 37) hM (v := nI 1) dX10_leastTide_37 (by decide) ?_
          refine j_isub (pc := 38) hM (v := (nI (q - 1)) - (nI 1)) dX10_leastTide_38 rfl ?_
          refine j_put (pc := 39) hM fp_X10_117 [(o, .inr (10, [.ref aP, .int (nI pn), .int (nI en), .int (nI ne), .int (nI ns), .int (nI nb), .int (nI na), .int (nI s.1), .int (nI s.2.1), .int (nI s.2.2), .int (nI tm), .int (nI sr), .ref aH, .ref aW, .ref aD, .ref aK, .ref aM, .int ((nI (q - 1)) - (nI 1)), .int (nI gg), .int (nI zz), .int (nI fd), .int (nI sn), .ref aG, .int (nI sd), .int (nI kS), .int (nI ks.1), .int (nI ks.2.1), .int (nI ks.2.2), .int (nI ktm), .int (nI ksn), .ref bH, .ref bW, .ref bK, .ref bM, .ref bG, .long hs])), (aH, arC cy 8 h), (aW, arC cy 3 w), (aD, arC cy 3 d)] 0 rfl (lb rfl) rfl rfl rfl dX10_leastTide_39 ?_
          refine j_goto (pc := 42) hM 8 dX10_leastTide_42 (by decide) ?_
          refine j_lv (pc := 8) hM [1, 2, 0] rfl ?_
          exact ih8 ((nI (q - 1)) - (nI 1)) (q - 1) (q - 1) rfl (by omega) (by rw [if_pos (by omega)]; first | omega | (rw [hy]; split <;> omega)) (by omega)
  refine j_lv (pc := 8) hM [1, 2, 0] rfl ?_
  exact L8 _ (nI 30) 31 0 (by decide) (by omega) rfl (Nat.lt_succ_self _)
set_option maxHeartbeats 4000000 in
set_option maxRecDepth 100000 in
theorem c_X10_tellBoat (l : Launch) (D : va_G) (cy : ClassId) (o : Nat) (aP : Nat) (aH : Nat) (aW : Nat) (aD : Nat) (aK : Nat) (aM : Nat) (aG : Nat) (bH : Nat) (bW : Nat) (bK : Nat) (bM : Nat) (bG : Nat) (pn : Nat) (en : Nat) (ne : Nat) (ns : Nat) (nb : Nat) (na : Nat) (tm : Nat) (sr : Nat) (fd : Nat) (sn : Nat) (sd : Nat) (kS : Nat) (ktm : Nat) (ksn : Nat) (s : S3) (st : S3) (ks : S3) (hs : Int64) (h : Nat → Nat) (w : Nat → Nat) (d : Nat → Nat) (a : Nat) (y : Int32) (ok : okB ns nb h w d) (oks : okS s) (ha : a < nb) : Ct (σ := S3) l D cy yX10_tellBoat cX10_tellBoat 3 (some .int) { frames := 3, cells := 0, slots := 0, locals := 66 } [.ref o, .int (nI a), .int y] [(o, .inr (10, [.ref aP, .int (nI pn), .int (nI en), .int (nI ne), .int (nI ns), .int (nI nb), .int (nI na), .int (nI s.1), .int (nI s.2.1), .int (nI s.2.2), .int (nI tm), .int (nI sr), .ref aH, .ref aW, .ref aD, .ref aK, .ref aM, .int (nI st.1), .int (nI st.2.1), .int (nI st.2.2), .int (nI fd), .int (nI sn), .ref aG, .int (nI sd), .int (nI kS), .int (nI ks.1), .int (nI ks.2.1), .int (nI ks.2.2), .int (nI ktm), .int (nI ksn), .ref bH, .ref bW, .ref bK, .ref bM, .ref bG, .long hs])), (aH, arC cy 8 h), (aW, arC cy 3 w), (aD, arC cy 3 d)] (fun u => True) (fun u => some (.int (boatT h w d s.1 a y))) (fun u => [(o, .inr (10, [.ref aP, .int (nI pn), .int (nI en), .int (nI ne), .int (nI ns), .int (nI nb), .int (nI na), .int (nI s.1), .int (nI s.2.1), .int (nI s.2.2), .int (nI tm), .int (nI sr), .ref aH, .ref aW, .ref aD, .ref aK, .ref aM, .int (nI u.1), .int (nI u.2.1), .int (nI u.2.2), .int (nI fd), .int (nI sn), .ref aG, .int (nI sd), .int (nI kS), .int (nI ks.1), .int (nI ks.2.1), .int (nI ks.2.2), .int (nI ktm), .int (nI ksn), .ref bH, .ref bW, .ref bK, .ref bM, .ref bG, .long hs])), (aH, arC cy 8 h), (aW, arC cy 3 w), (aD, arC cy 3 d)]) := by
  refine Ct_ofI (by decide) (lb rfl) [(0, .ref o), (1, .int (nI a)), (2, .int y)] rfl (fun G hM hret => ?_)
  obtain ⟨zb, zb2, zh, zw, zd⟩ := id ok
  obtain ⟨o1, o2, o3⟩ := oks
  refine j_aload_n (pc := 0) hM dX10_tellBoat_0 rfl 0 rfl ?_
  refine j_callV (pc := 1) hM cv_X10_136 (As := []) (rest := []) (b := o) (c_X10_begin l D cy o aP aH aW aD aK aM aG bH bW bK bM bG pn en ne ns nb na tm sr fd sn sd kS ktm ksn s st ks hs) ⟨lb rfl, lb rfl, lb rfl, lb rfl⟩ rfl 0 rfl rfl [0] [1, 2, 3] [3, 0, 1, 2] [(aH, arC cy 8 h), (aW, arC cy 3 w), (aD, arC cy 3 d)] (fun _ => [(o, .inr (10, [.ref aP, .int (nI pn), .int (nI en), .int (nI ne), .int (nI ns), .int (nI nb), .int (nI na), .int (nI s.1), .int (nI s.2.1), .int (nI s.2.2), .int (nI tm), .int (nI sr), .ref aH, .ref aW, .ref aD, .ref aK, .ref aM, .int (nI s.1), .int (nI s.2.1), .int (nI s.2.2), .int (nI fd), .int (nI sn), .ref aG, .int (nI sd), .int (nI kS), .int (nI ks.1), .int (nI ks.2.1), .int (nI ks.2.2), .int (nI ktm), .int (nI ksn), .ref bH, .ref bW, .ref bK, .ref bM, .ref bG, .long hs])), (aH, arC cy 8 h), (aW, arC cy 3 w), (aD, arC cy 3 d)]) rfl (by decide) rfl (by decide) (by decide) (by decide) (fun _ => rfl) (lb rfl) dX10_tellBoat_1 hM.two (fun _ _ => ?_)
  show G [(o, .inr (10, [.ref aP, .int (nI pn), .int (nI en), .int (nI ne), .int (nI ns), .int (nI nb), .int (nI na), .int (nI s.1), .int (nI s.2.1), .int (nI s.2.2), .int (nI tm), .int (nI sr), .ref aH, .ref aW, .ref aD, .ref aK, .ref aM, .int (nI s.1), .int (nI s.2.1), .int (nI s.2.2), .int (nI fd), .int (nI sn), .ref aG, .int (nI sd), .int (nI kS), .int (nI ks.1), .int (nI ks.2.1), .int (nI ks.2.2), .int (nI ktm), .int (nI ksn), .ref bH, .ref bW, .ref bK, .ref bM, .ref bG, .long hs])), (aH, arC cy 8 h), (aW, arC cy 3 w), (aD, arC cy 3 d)] [(0, .ref o), (1, .int (nI a)), (2, .int y)] 4 []
  refine j_iload_n (pc := 4) hM dX10_tellBoat_4 rfl 2 rfl ?_
  rcases (show (y.toInt) = 0 ∨ (y.toInt) = 1 ∨ (y.toInt) = 2 ∨ (y.toInt) = 3 ∨ ((y.toInt) < 0 ∨ 3 < (y.toInt)) by omega) with s5 | s5 | s5 | s5 | s5
  · skip
    refine j_tsZ (pc := 5) hM 0 36 dX10_tellBoat_5 s5 (by decide) (by decide) rfl (by decide) ?_
    refine j_aload_n (pc := 36) hM dX10_tellBoat_36 rfl 0 rfl ?_
    refine j_get (pc := 37) hM fd_X10_16 0 rfl rfl dX10_tellBoat_37 ?_
    refine j_iload_n (pc := 40) hM dX10_tellBoat_40 rfl 1 rfl ?_
    refine j_ldN (pc := 41) hM (v := w a) 2 rfl (by omega) (by decide) rfl dX10_tellBoat_41 ?_
    exact hret s _ _ _ _ trivial rfl (show some (Value.int (nI (w a))) = some (Value.int (boatT h w d s.1 a y)) from by simp only [boatT]; rw [if_pos s5]) rfl dX10_tellBoat_42
  · skip
    refine j_tsZ (pc := 5) hM 1 43 dX10_tellBoat_5 s5 (by decide) (by decide) rfl (by decide) ?_
    refine j_aload_n (pc := 43) hM dX10_tellBoat_43 rfl 0 rfl ?_
    refine j_get (pc := 44) hM fd_X10_19 0 rfl rfl dX10_tellBoat_44 ?_
    refine j_iload_n (pc := 47) hM dX10_tellBoat_47 rfl 1 rfl ?_
    refine j_ldN (pc := 48) hM (v := d a) 3 rfl (by omega) (by decide) rfl dX10_tellBoat_48 ?_
    exact hret s _ _ _ _ trivial rfl (show some (Value.int (nI (d a))) = some (Value.int (boatT h w d s.1 a y)) from by simp only [boatT]; rw [if_neg (by omega), if_pos s5]) rfl dX10_tellBoat_49
  · skip
    refine j_tsZ (pc := 5) hM 2 50 dX10_tellBoat_5 s5 (by decide) (by decide) rfl (by decide) ?_
    refine j_aload_n (pc := 50) hM dX10_tellBoat_50 rfl 0 rfl ?_
    refine j_iload_n (pc := 51) hM dX10_tellBoat_51 rfl 1 rfl ?_
    refine j_callV (pc := 52) hM cv_X10_133 (As := [.int (nI a)]) (rest := []) (b := o) (c_X10_floatsThen l D cy o aP aH aW aD aK aM aG bH bW bK bM bG pn en ne ns nb na tm sr fd sn sd kS ktm ksn s ks hs s.1 s.2.1 s.2.2 h w d a ok (by first | assumption | omega) (by omega)) ⟨lb rfl, lb rfl, lb rfl, lb rfl⟩ rfl 0 rfl rfl [0, 1, 2, 3] [] [0, 1, 2, 3] [] (fun _ => [(o, .inr (10, [.ref aP, .int (nI pn), .int (nI en), .int (nI ne), .int (nI ns), .int (nI nb), .int (nI na), .int (nI s.1), .int (nI s.2.1), .int (nI s.2.2), .int (nI tm), .int (nI sr), .ref aH, .ref aW, .ref aD, .ref aK, .ref aM, .int (nI s.1), .int (nI s.2.1), .int (nI s.2.2), .int (nI fd), .int (nI sn), .ref aG, .int (nI sd), .int (nI kS), .int (nI ks.1), .int (nI ks.2.1), .int (nI ks.2.2), .int (nI ktm), .int (nI ksn), .ref bH, .ref bW, .ref bK, .ref bM, .ref bG, .long hs])), (aH, arC cy 8 h), (aW, arC cy 3 w), (aD, arC cy 3 d)]) rfl (by decide) rfl (by decide) (by decide) (by decide) (fun _ => rfl) (lb rfl) dX10_tellBoat_52 hM.two (fun _ _ => ?_)
    show G [(o, .inr (10, [.ref aP, .int (nI pn), .int (nI en), .int (nI ne), .int (nI ns), .int (nI nb), .int (nI na), .int (nI s.1), .int (nI s.2.1), .int (nI s.2.2), .int (nI tm), .int (nI sr), .ref aH, .ref aW, .ref aD, .ref aK, .ref aM, .int (nI s.1), .int (nI s.2.1), .int (nI s.2.2), .int (nI fd), .int (nI sn), .ref aG, .int (nI sd), .int (nI kS), .int (nI ks.1), .int (nI ks.2.1), .int (nI ks.2.2), .int (nI ktm), .int (nI ksn), .ref bH, .ref bW, .ref bK, .ref bM, .ref bG, .long hs])), (aH, arC cy 8 h), (aW, arC cy 3 w), (aD, arC cy 3 d)] [(0, .ref o), (1, .int (nI a)), (2, .int y)] 55 [.int (nI (if leastT h w d a ≤ s.1 then 1 else 0))]
    refine j_if_eqB (pc := 55) (P := (leastT h w d a ≤ s.1)) hM 62 dX10_tellBoat_55 (by decide) b0_eq (fun c55 => ?_) (fun c55 => ?_)
    · skip
      refine j_iconst (pc := 62) hM (v := nI 0) dX10_tellBoat_62 (by decide) ?_
      exact hret s _ _ _ _ trivial rfl (show some (Value.int (nI 0)) = some (Value.int (boatT h w d s.1 a y)) from by simp only [boatT]; rw [if_neg (by omega), if_neg (by omega), if_pos s5]; first | rw [if_pos c55] | rw [if_neg c55]) rfl dX10_tellBoat_63
    · skip
      refine j_iconst (pc := 58) hM (v := nI 1) dX10_tellBoat_58 (by decide) ?_
      refine j_goto (pc := 59) hM 63 dX10_tellBoat_59 (by decide) ?_
      exact hret s _ _ _ _ trivial rfl (show some (Value.int (nI 1)) = some (Value.int (boatT h w d s.1 a y)) from by simp only [boatT]; rw [if_neg (by omega), if_neg (by omega), if_pos s5]; first | rw [if_pos c55] | rw [if_neg c55]) rfl dX10_tellBoat_63
  · skip
    refine j_tsZ (pc := 5) hM 3 64 dX10_tellBoat_5 s5 (by decide) (by decide) rfl (by decide) ?_
    refine j_aload_n (pc := 64) hM dX10_tellBoat_64 rfl 0 rfl ?_
    refine j_iload_n (pc := 65) hM dX10_tellBoat_65 rfl 1 rfl ?_
    refine j_callV (pc := 66) hM cv_X10_149 (As := [.int (nI a)]) (rest := []) (b := o) (c_X10_leastTide l D cy o aP aH aW aD aK aM aG bH bW bK bM bG pn en ne ns nb na tm sr fd sn sd kS ktm ksn s ks hs s.1 s.2.1 s.2.2 h w d a ok (by first | assumption | omega)) ⟨lb rfl, lb rfl, lb rfl, lb rfl⟩ rfl 0 rfl rfl [0, 1, 2, 3] [] [0, 1, 2, 3] [] (fun _ => [(o, .inr (10, [.ref aP, .int (nI pn), .int (nI en), .int (nI ne), .int (nI ns), .int (nI nb), .int (nI na), .int (nI s.1), .int (nI s.2.1), .int (nI s.2.2), .int (nI tm), .int (nI sr), .ref aH, .ref aW, .ref aD, .ref aK, .ref aM, .int (nI 4294967295), .int (nI s.2.1), .int (nI s.2.2), .int (nI fd), .int (nI sn), .ref aG, .int (nI sd), .int (nI kS), .int (nI ks.1), .int (nI ks.2.1), .int (nI ks.2.2), .int (nI ktm), .int (nI ksn), .ref bH, .ref bW, .ref bK, .ref bM, .ref bG, .long hs])), (aH, arC cy 8 h), (aW, arC cy 3 w), (aD, arC cy 3 d)]) rfl (by decide) rfl (by decide) (by decide) (by decide) (fun _ => rfl) (lb rfl) dX10_tellBoat_66 hM.two (fun _ _ => ?_)
    show G [(o, .inr (10, [.ref aP, .int (nI pn), .int (nI en), .int (nI ne), .int (nI ns), .int (nI nb), .int (nI na), .int (nI s.1), .int (nI s.2.1), .int (nI s.2.2), .int (nI tm), .int (nI sr), .ref aH, .ref aW, .ref aD, .ref aK, .ref aM, .int (nI 4294967295), .int (nI s.2.1), .int (nI s.2.2), .int (nI fd), .int (nI sn), .ref aG, .int (nI sd), .int (nI kS), .int (nI ks.1), .int (nI ks.2.1), .int (nI ks.2.2), .int (nI ktm), .int (nI ksn), .ref bH, .ref bW, .ref bK, .ref bM, .ref bG, .long hs])), (aH, arC cy 8 h), (aW, arC cy 3 w), (aD, arC cy 3 d)] [(0, .ref o), (1, .int (nI a)), (2, .int y)] 69 [.int (nI (leastT h w d a))]
    exact hret (4294967295, s.2.1, s.2.2) _ _ _ _ trivial (eq3 (fun (z0 : Nat) (z1 : Nat) (z2 : Nat) => ([(o, .inr (10, [.ref aP, .int (nI pn), .int (nI en), .int (nI ne), .int (nI ns), .int (nI nb), .int (nI na), .int (nI s.1), .int (nI s.2.1), .int (nI s.2.2), .int (nI tm), .int (nI sr), .ref aH, .ref aW, .ref aD, .ref aK, .ref aM, .int (nI z0), .int (nI z1), .int (nI z2), .int (nI fd), .int (nI sn), .ref aG, .int (nI sd), .int (nI kS), .int (nI ks.1), .int (nI ks.2.1), .int (nI ks.2.2), .int (nI ktm), .int (nI ksn), .ref bH, .ref bW, .ref bK, .ref bM, .ref bG, .long hs])), (aH, arC cy 8 h), (aW, arC cy 3 w), (aD, arC cy 3 d)] : va_W)) (show 4294967295 = ((4294967295, s.2.1, s.2.2).1) from by first | rfl | omega | (split <;> omega)) (show s.2.1 = ((4294967295, s.2.1, s.2.2).2.1) from by first | rfl | omega | (split <;> omega)) (show s.2.2 = ((4294967295, s.2.1, s.2.2).2.2) from by first | rfl | omega | (split <;> omega))) (show some (Value.int (nI (leastT h w d a))) = some (Value.int (boatT h w d s.1 a y)) from by simp only [boatT]; rw [if_neg (by omega), if_neg (by omega), if_neg (by omega), if_pos s5]) rfl dX10_tellBoat_69
  · skip
    refine j_tsOut (pc := 5) hM 70 dX10_tellBoat_5 (by omega) (by decide) ?_
    refine j_bipush (pc := 70) hM (v := (-102)) dX10_tellBoat_70 (by decide) ?_
    exact hret s _ _ _ _ trivial rfl (show some (Value.int (-102)) = some (Value.int (boatT h w d s.1 a y)) from by simp only [boatT]; rw [if_neg (by omega), if_neg (by omega), if_neg (by omega), if_neg (by omega)]) rfl dX10_tellBoat_72
set_option maxHeartbeats 4000000 in
set_option maxRecDepth 100000 in
theorem c_X10_boat (l : Launch) (D : va_G) (cy : ClassId) (o : Nat) (aP : Nat) (aH : Nat) (aW : Nat) (aD : Nat) (aK : Nat) (aM : Nat) (aG : Nat) (bH : Nat) (bW : Nat) (bK : Nat) (bM : Nat) (bG : Nat) (pn : Nat) (en : Nat) (ne : Nat) (ns : Nat) (nb : Nat) (na : Nat) (tm : Nat) (sr : Nat) (fd : Nat) (sn : Nat) (sd : Nat) (kS : Nat) (ktm : Nat) (ksn : Nat) (s : S3) (st : S3) (ks : S3) (hs : Int64) (h : Nat → Nat) (w : Nat → Nat) (d : Nat → Nat) (x : Int32) (y : Int32) (ok : okB ns nb h w d) (oks : okS s) : Ct (σ := S3) l D cy yX10_boat cX10_boat 3 (some .int) { frames := 4, cells := 0, slots := 0, locals := 88 } [.ref o, .int x, .int y] [(o, .inr (10, [.ref aP, .int (nI pn), .int (nI en), .int (nI ne), .int (nI ns), .int (nI nb), .int (nI na), .int (nI s.1), .int (nI s.2.1), .int (nI s.2.2), .int (nI tm), .int (nI sr), .ref aH, .ref aW, .ref aD, .ref aK, .ref aM, .int (nI st.1), .int (nI st.2.1), .int (nI st.2.2), .int (nI fd), .int (nI sn), .ref aG, .int (nI sd), .int (nI kS), .int (nI ks.1), .int (nI ks.2.1), .int (nI ks.2.2), .int (nI ktm), .int (nI ksn), .ref bH, .ref bW, .ref bK, .ref bM, .ref bG, .long hs])), (aH, arC cy 8 h), (aW, arC cy 3 w), (aD, arC cy 3 d)] (fun u => True) (fun u => some (.int (boatA nb h w d s.1 x y))) (fun u => [(o, .inr (10, [.ref aP, .int (nI pn), .int (nI en), .int (nI ne), .int (nI ns), .int (nI nb), .int (nI na), .int (nI s.1), .int (nI s.2.1), .int (nI s.2.2), .int (nI tm), .int (nI sr), .ref aH, .ref aW, .ref aD, .ref aK, .ref aM, .int (nI u.1), .int (nI u.2.1), .int (nI u.2.2), .int (nI fd), .int (nI sn), .ref aG, .int (nI sd), .int (nI kS), .int (nI ks.1), .int (nI ks.2.1), .int (nI ks.2.2), .int (nI ktm), .int (nI ksn), .ref bH, .ref bW, .ref bK, .ref bM, .ref bG, .long hs])), (aH, arC cy 8 h), (aW, arC cy 3 w), (aD, arC cy 3 d)]) := by
  refine Ct_ofI (by decide) (lb rfl) [(0, .ref o), (1, .int x), (2, .int y)] rfl (fun G hM hret => ?_)
  have zb := ok.2.1
  refine j_aload_n (pc := 0) hM dX10_boat_0 rfl 0 rfl ?_
  refine j_iload_n (pc := 1) hM dX10_boat_1 rfl 1 rfl ?_
  refine j_callV (pc := 2) hM cv_X10_152 (As := [.int x]) (rest := []) (b := o) (c_X10_isBoat l D cy o aP aH aW aD aK aM aG bH bW bK bM bG pn en ne ns nb na tm sr fd sn sd kS ktm ksn s st ks hs x (by first | assumption | omega)) ⟨lb rfl, lb rfl, lb rfl, lb rfl⟩ rfl 0 rfl rfl [0] [1, 2, 3] [3, 0, 1, 2] [(aH, arC cy 8 h), (aW, arC cy 3 w), (aD, arC cy 3 d)] (fun _ => [(o, .inr (10, [.ref aP, .int (nI pn), .int (nI en), .int (nI ne), .int (nI ns), .int (nI nb), .int (nI na), .int (nI s.1), .int (nI s.2.1), .int (nI s.2.2), .int (nI tm), .int (nI sr), .ref aH, .ref aW, .ref aD, .ref aK, .ref aM, .int (nI st.1), .int (nI st.2.1), .int (nI st.2.2), .int (nI fd), .int (nI sn), .ref aG, .int (nI sd), .int (nI kS), .int (nI ks.1), .int (nI ks.2.1), .int (nI ks.2.2), .int (nI ktm), .int (nI ksn), .ref bH, .ref bW, .ref bK, .ref bM, .ref bG, .long hs])), (aH, arC cy 8 h), (aW, arC cy 3 w), (aD, arC cy 3 d)]) rfl (by decide) rfl (by decide) (by decide) (by decide) (fun _ => rfl) (lb rfl) dX10_boat_2 hM.two (fun _ _ => ?_)
  show G [(o, .inr (10, [.ref aP, .int (nI pn), .int (nI en), .int (nI ne), .int (nI ns), .int (nI nb), .int (nI na), .int (nI s.1), .int (nI s.2.1), .int (nI s.2.2), .int (nI tm), .int (nI sr), .ref aH, .ref aW, .ref aD, .ref aK, .ref aM, .int (nI st.1), .int (nI st.2.1), .int (nI st.2.2), .int (nI fd), .int (nI sn), .ref aG, .int (nI sd), .int (nI kS), .int (nI ks.1), .int (nI ks.2.1), .int (nI ks.2.2), .int (nI ktm), .int (nI ksn), .ref bH, .ref bW, .ref bK, .ref bM, .ref bG, .long hs])), (aH, arC cy 8 h), (aW, arC cy 3 w), (aD, arC cy 3 d)] [(0, .ref o), (1, .int x), (2, .int y)] 5 [.int (nI (if inR x nb then 1 else 0))]
  refine j_if_eqB (pc := 5) (P := (inR x nb)) hM 17 dX10_boat_5 (by decide) b0_eq (fun c5 => ?_) (fun c5 => ?_)
  · skip
    refine j_bipush (pc := 17) hM (v := (-101)) dX10_boat_17 (by decide) ?_
    exact hret st _ _ _ _ trivial rfl (show some (Value.int (-101)) = some (Value.int (boatA nb h w d s.1 x y)) from by first | rw [boatA_T c5] | (simp only [boatA]; rw [if_neg c5])) rfl dX10_boat_19
  · skip
    have nx : x = nI (xn x) := xnI (by omega)
    have jx := xn_eq (x := x) (by omega)
    rw [nx]
    refine j_aload_n (pc := 8) hM dX10_boat_8 rfl 0 rfl ?_
    refine j_iload_n (pc := 9) hM dX10_boat_9 rfl 1 rfl ?_
    refine j_iload_n (pc := 10) hM dX10_boat_10 rfl 2 rfl ?_
    refine j_callV (pc := 11) hM cv_X10_155 (As := [.int (nI (xn x)), .int y]) (rest := []) (b := o) (c_X10_tellBoat l D cy o aP aH aW aD aK aM aG bH bW bK bM bG pn en ne ns nb na tm sr fd sn sd kS ktm ksn s st ks hs h w d (xn x) y ok oks (by omega)) ⟨lb rfl, lb rfl, lb rfl, lb rfl⟩ rfl 0 rfl rfl [0, 1, 2, 3] [] [0, 1, 2, 3] [] (fun u11 => [(o, .inr (10, [.ref aP, .int (nI pn), .int (nI en), .int (nI ne), .int (nI ns), .int (nI nb), .int (nI na), .int (nI s.1), .int (nI s.2.1), .int (nI s.2.2), .int (nI tm), .int (nI sr), .ref aH, .ref aW, .ref aD, .ref aK, .ref aM, .int (nI u11.1), .int (nI u11.2.1), .int (nI u11.2.2), .int (nI fd), .int (nI sn), .ref aG, .int (nI sd), .int (nI kS), .int (nI ks.1), .int (nI ks.2.1), .int (nI ks.2.2), .int (nI ktm), .int (nI ksn), .ref bH, .ref bW, .ref bK, .ref bM, .ref bG, .long hs])), (aH, arC cy 8 h), (aW, arC cy 3 w), (aD, arC cy 3 d)]) rfl (by decide) rfl (by decide) (by decide) (by decide) (fun _ => rfl) (lb rfl) dX10_boat_11 hM.two (fun u11 _ => ?_)
    show G [(o, .inr (10, [.ref aP, .int (nI pn), .int (nI en), .int (nI ne), .int (nI ns), .int (nI nb), .int (nI na), .int (nI s.1), .int (nI s.2.1), .int (nI s.2.2), .int (nI tm), .int (nI sr), .ref aH, .ref aW, .ref aD, .ref aK, .ref aM, .int (nI u11.1), .int (nI u11.2.1), .int (nI u11.2.2), .int (nI fd), .int (nI sn), .ref aG, .int (nI sd), .int (nI kS), .int (nI ks.1), .int (nI ks.2.1), .int (nI ks.2.2), .int (nI ktm), .int (nI ksn), .ref bH, .ref bW, .ref bK, .ref bM, .ref bG, .long hs])), (aH, arC cy 8 h), (aW, arC cy 3 w), (aD, arC cy 3 d)] [(0, .ref o), (1, .int (nI (xn x))), (2, .int y)] 14 [.int (boatT h w d s.1 (xn x) y)]
    refine j_goto (pc := 14) hM 19 dX10_boat_14 (by decide) ?_
    exact hret u11 _ _ _ _ trivial rfl (show some (Value.int (boatT h w d s.1 (xn x) y)) = some (Value.int (boatA nb h w d s.1 x y)) from by first | rw [boatA_T c5] | (simp only [boatA]; rw [if_neg c5])) rfl dX10_boat_19
