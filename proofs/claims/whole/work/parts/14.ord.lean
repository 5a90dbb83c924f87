set_option maxHeartbeats 4000000 in
set_option maxRecDepth 100000 in
theorem c_X3_swap (l : Launch) (D : va_G) (cy : ClassId) (p : Nat) (eS : Nat) (eL : Nat) (eB : Nat) (na : Nat) (bf : Int32) (bg : Nat) (bt : Nat) (i : Nat) (j : Nat) (ln : Nat → Nat) (hi : i < 5) (hj : j < 5) : Ct (σ := Unit) l D cy yX3_swap cX3_swap 4 none { frames := 0, cells := 0, slots := 0, locals := 0 } [.ref p, .int (nI i), .int (nI j)] [(p, .inr (3, [.ref eS, .ref eL, .ref eB, .int (nI na), .int bf, .int (nI bg), .int (nI bt)])), (eL, arC cy 5 ln)] (fun _ => True) (fun _ => none) (fun _ => [(p, .inr (3, [.ref eS, .ref eL, .ref eB, .int (nI na), .int bf, .int (nI bg), .int (nI bt)])), (eL, arC cy 5 (sw ln i j))]) := by
  refine Ct_ofV (by decide) (lb rfl) [(0, .ref p), (1, .int (nI i)), (2, .int (nI j))] rfl (fun G hM hret => ?_)
  refine j_aload_n (pc := 0) hM dX3_swap_0 rfl 0 rfl ?_
  refine j_get (pc := 1) hM fd_X3_18 0 rfl rfl dX3_swap_1 ?_
  refine j_iload_n (pc := 4) hM dX3_swap_4 rfl 1 rfl ?_
  refine j_ldN (pc := 5) hM (v := ln i) 1 rfl (by omega) (by decide) rfl dX3_swap_5 ?_
  refine j_istore_n (pc := 6) hM [(3, .int (nI (ln i))), (0, .ref p), (1, .int (nI i)), (2, .int (nI j))] dX3_swap_6 rfl (by decide) rfl ?_
  refine j_aload_n (pc := 7) hM dX3_swap_7 rfl 1 rfl ?_
  refine j_get (pc := 8) hM fd_X3_18 0 rfl rfl dX3_swap_8 ?_
  refine j_iload_n (pc := 11) hM dX3_swap_11 rfl 2 rfl ?_
  refine j_aload_n (pc := 12) hM dX3_swap_12 rfl 1 rfl ?_
  refine j_get (pc := 13) hM fd_X3_18 0 rfl rfl dX3_swap_13 ?_
  refine j_iload_n (pc := 16) hM dX3_swap_16 rfl 3 rfl ?_
  refine j_ldN (pc := 17) hM (v := ln j) 1 rfl (by omega) (by decide) rfl dX3_swap_17 ?_
  refine j_stN (pc := 18) hM [(p, .inr (3, [.ref eS, .ref eL, .ref eB, .int (nI na), .int bf, .int (nI bg), .int (nI bt)])), (eL, arC cy 5 (va_up ln i (ln j)))] 1 rfl (by omega) (by decide) rfl dX3_swap_18 ?_
  refine j_aload_n (pc := 19) hM dX3_swap_19 rfl 1 rfl ?_
  refine j_get (pc := 20) hM fd_X3_18 0 rfl rfl dX3_swap_20 ?_
  refine j_iload_n (pc := 23) hM dX3_swap_23 rfl 3 rfl ?_
  refine j_iload_n (pc := 24) hM dX3_swap_24 rfl 0 rfl ?_
  refine j_stN (pc := 25) hM [(p, .inr (3, [.ref eS, .ref eL, .ref eB, .int (nI na), .int bf, .int (nI bg), .int (nI bt)])), (eL, arC cy 5 (va_up (va_up ln i (ln j)) j (ln i)))] 1 rfl (by omega) (by decide) rfl dX3_swap_25 ?_
  exact hret () _ _ _ trivial (eq1 (fun (z0 : Nat → Nat) => ([(p, .inr (3, [.ref eS, .ref eL, .ref eB, .int (nI na), .int bf, .int (nI bg), .int (nI bt)])), (eL, arC cy 5 z0)] : va_W)) (show (va_up (va_up ln i (ln j)) j (ln i)) = (sw ln i j) from rfl)) rfl dX3_swap_26
set_option maxHeartbeats 4000000 in
set_option maxRecDepth 100000 in
theorem c_X3_isBetter (l : Launch) (D : va_G) (cy : ClassId) (p : Nat) (eS : Nat) (eL : Nat) (eB : Nat) (bf : Int32) (b1 : Nat) (bg : Nat) (bt : Nat) (e : S3) (na : Nat) (f : Nat) (hbf : bf = nI b1 - nI 1) (hb4 : b1 ≤ 4) (hf3 : f ≤ 3) (oke : okS e) (hgt : 0 < b1 → bg ≤ 9 ∧ bt ≤ 20) : Ct (σ := Unit) l D cy yX3_isBetter cX3_isBetter 2 (some .boolean) { frames := 0, cells := 0, slots := 0, locals := 0 } [.ref p, .int (nI f)] [(p, .inr (3, [.ref eS, .ref eL, .ref eB, .int (nI na), .int bf, .int (nI bg), .int (nI bt)])), (eS, .inr (6, [.int (nI e.1), .int (nI e.2.1), .int (nI e.2.2)]))] (fun _ => True) (fun _ => some (.int (nI (if betr f e.2.1 e.1 b1 bg bt then 1 else 0)))) (fun _ => [(p, .inr (3, [.ref eS, .ref eL, .ref eB, .int (nI na), .int bf, .int (nI bg), .int (nI bt)])), (eS, .inr (6, [.int (nI e.1), .int (nI e.2.1), .int (nI e.2.2)]))]) := by
  refine Ct_ofI (by decide) (lb rfl) [(0, .ref p), (1, .int (nI f))] rfl (fun G hM hret => ?_)
  obtain ⟨o1, o2, o3⟩ := oke
  refine j_iload_n (pc := 0) hM dX3_isBetter_0 rfl 1 rfl ?_
  refine j_aload_n (pc := 1) hM dX3_isBetter_1 rfl 0 rfl ?_
  refine j_get (pc := 2) hM fd_X3_29 0 rfl rfl dX3_isBetter_2 ?_
  refine j_icmp_eq (pc := 5) (P := f + 1 = b1) hM 22 dX3_isBetter_5 (by decide) (m1_eq hbf (by omega) (by omega)) (fun c5 => ?_) (fun c5 => ?_)
  · skip
    obtain ⟨g1, g2⟩ := hgt (by omega)
    refine j_aload_n (pc := 22) hM dX3_isBetter_22 rfl 0 rfl ?_
    refine j_get (pc := 23) hM fd_X3_12 0 rfl rfl dX3_isBetter_23 ?_
    refine j_get (pc := 26) hM fd_X3_69 1 rfl rfl dX3_isBetter_26 ?_
    refine j_aload_n (pc := 29) hM dX3_isBetter_29 rfl 0 rfl ?_
    refine j_get (pc := 30) hM fd_X3_32 0 rfl rfl dX3_isBetter_30 ?_
    refine j_icmp_eq (pc := 33) hM 56 dX3_isBetter_33 (by decide) (cEQ (by omega) (by omega)) (fun c33 => ?_) (fun c33 => ?_)
    · skip
      refine j_aload_n (pc := 56) hM dX3_isBetter_56 rfl 0 rfl ?_
      refine j_get (pc := 57) hM fd_X3_12 0 rfl rfl dX3_isBetter_57 ?_
      refine j_get (pc := 60) hM fd_X3_58 1 rfl rfl dX3_isBetter_60 ?_
      refine j_aload_n (pc := 63) hM dX3_isBetter_63 rfl 0 rfl ?_
      refine j_get (pc := 64) hM fd_X3_35 0 rfl rfl dX3_isBetter_64 ?_
      refine j_icmp_le (pc := 67) hM 74 dX3_isBetter_67 (by decide) (cLE (by omega) (by omega)) (fun c67 => ?_) (fun c67 => ?_)
      · skip
        refine j_iconst (pc := 74) hM (v := nI 0) dX3_isBetter_74 (by decide) ?_
        exact hret () _ _ _ _ trivial rfl (sI (show 0 = (if betr f e.2.1 e.1 b1 bg bt then 1 else 0) from by first | (rw [if_pos (by omega)]) | (rw [if_neg (by omega)]))) rfl dX3_isBetter_75
      · skip
        refine j_iconst (pc := 70) hM (v := nI 1) dX3_isBetter_70 (by decide) ?_
        refine j_goto (pc := 71) hM 75 dX3_isBetter_71 (by decide) ?_
        exact hret () _ _ _ _ trivial rfl (sI (show 1 = (if betr f e.2.1 e.1 b1 bg bt then 1 else 0) from by first | (rw [if_pos (by omega)]) | (rw [if_neg (by omega)]))) rfl dX3_isBetter_75
    · skip
      refine j_aload_n (pc := 36) hM dX3_isBetter_36 rfl 0 rfl ?_
      refine j_get (pc := 37) hM fd_X3_12 0 rfl rfl dX3_isBetter_37 ?_
      refine j_get (pc := 40) hM fd_X3_69 1 rfl rfl dX3_isBetter_40 ?_
      refine j_aload_n (pc := 43) hM dX3_isBetter_43 rfl 0 rfl ?_
      refine j_get (pc := 44) hM fd_X3_32 0 rfl rfl dX3_isBetter_44 ?_
      refine j_icmp_ge (pc := 47) hM 54 dX3_isBetter_47 (by decide) (cLE (by omega) (by omega)) (fun c47 => ?_) (fun c47 => ?_)
      · skip
        refine j_iconst (pc := 54) hM (v := nI 0) dX3_isBetter_54 (by decide) ?_
        exact hret () _ _ _ _ trivial rfl (sI (show 0 = (if betr f e.2.1 e.1 b1 bg bt then 1 else 0) from by first | (rw [if_pos (by omega)]) | (rw [if_neg (by omega)]))) rfl dX3_isBetter_55
      · skip
        refine j_iconst (pc := 50) hM (v := nI 1) dX3_isBetter_50 (by decide) ?_
        refine j_goto (pc := 51) hM 55 dX3_isBetter_51 (by decide) ?_
        exact hret () _ _ _ _ trivial rfl (sI (show 1 = (if betr f e.2.1 e.1 b1 bg bt then 1 else 0) from by first | (rw [if_pos (by omega)]) | (rw [if_neg (by omega)]))) rfl dX3_isBetter_55
  · skip
    refine j_iload_n (pc := 8) hM dX3_isBetter_8 rfl 1 rfl ?_
    refine j_aload_n (pc := 9) hM dX3_isBetter_9 rfl 0 rfl ?_
    refine j_get (pc := 10) hM fd_X3_29 0 rfl rfl dX3_isBetter_10 ?_
    refine j_icmp_le (pc := 13) (P := f + 1 ≤ b1) hM 20 dX3_isBetter_13 (by decide) (m1_le hbf (by omega) (by omega)) (fun c13 => ?_) (fun c13 => ?_)
    · skip
      refine j_iconst (pc := 20) hM (v := nI 0) dX3_isBetter_20 (by decide) ?_
      exact hret () _ _ _ _ trivial rfl (sI (show 0 = (if betr f e.2.1 e.1 b1 bg bt then 1 else 0) from by first | (rw [if_pos (by omega)]) | (rw [if_neg (by omega)]))) rfl dX3_isBetter_21
    · skip
      refine j_iconst (pc := 16) hM (v := nI 1) dX3_isBetter_16 (by decide) ?_
      refine j_goto (pc := 17) hM 21 dX3_isBetter_17 (by decide) ?_
      exact hret () _ _ _ _ trivial rfl (sI (show 1 = (if betr f e.2.1 e.1 b1 bg bt then 1 else 0) from by first | (rw [if_pos (by omega)]) | (rw [if_neg (by omega)]))) rfl dX3_isBetter_21
set_option maxHeartbeats 4000000 in
set_option maxRecDepth 100000 in
theorem c_X3_tryLine (l : Launch) (D : va_G) (cy : ClassId) (p : Nat) (eS : Nat) (eL : Nat) (eB : Nat) (bf : Int32) (b1 : Nat) (bg : Nat) (bt : Nat) (e : S3) (ln : Nat → Nat) (bs : Nat → Nat) (o : Nat) (aH : Nat) (aW : Nat) (aD : Nat) (aK : Nat) (aM : Nat) (aA : Nat) (aT : Nat) (aS : Nat) (ns : Nat) (nb : Nat) (na : Nat) (tm : Nat) (sn : Nat) (h : Nat → Nat) (w : Nat → Nat) (d : Nat → Nat) (k : Nat → Nat) (m : Nat → Nat) (s : S3) (hbf : bf = nI b1 - nI 1) (hb4 : b1 ≤ 4) (hgt : 0 < b1 → bg ≤ 9 ∧ bt ≤ 20) (ok : okB ns nb h w d) (okk : okK na k m) (oks : okS s) (hln : ∀ i, i < na → ln i < na) : Ct (σ := Unit) l D cy yX3_tryLine cX3_tryLine 3 none { frames := 3, cells := 0, slots := 0, locals := 61 } [.ref p, .ref o] [(p, .inr (3, [.ref eS, .ref eL, .ref eB, .int (nI na), .int bf, .int (nI bg), .int (nI bt)])), (eS, .inr (6, [.int (nI e.1), .int (nI e.2.1), .int (nI e.2.2)])), (eL, arC cy 5 ln), (eB, arC cy 5 bs), (o, .inr (8, [.ref aH, .ref aW, .ref aD, .ref aK, .ref aM, .ref aA, .ref aT, .ref aS, .int (nI ns), .int (nI nb), .int (nI na), .int (nI tm), .int (nI sn)])), (aH, arC cy 8 h), (aW, arC cy 3 w), (aD, arC cy 3 d), (aK, arC cy 5 k), (aM, arC cy 5 m), (aS, .inr (6, [.int (nI s.1), .int (nI s.2.1), .int (nI s.2.2)]))] (fun _ => True) (fun _ => none) (fun _ => [(p, .inr (3, [.ref eS, .ref eL, .ref eB, .int (nI na), .int (if betr (nfl h w d (lrun k m ln s na).1 nb) (lrun k m ln s na).2.1 (lrun k m ln s na).1 b1 bg bt then nI (nfl h w d (lrun k m ln s na).1 nb) else bf), .int (nI (if betr (nfl h w d (lrun k m ln s na).1 nb) (lrun k m ln s na).2.1 (lrun k m ln s na).1 b1 bg bt then (lrun k m ln s na).2.1 else bg)), .int (nI (if betr (nfl h w d (lrun k m ln s na).1 nb) (lrun k m ln s na).2.1 (lrun k m ln s na).1 b1 bg bt then (lrun k m ln s na).1 else bt))])), (eS, .inr (6, [.int (nI ((lrun k m ln s na).1)), .int (nI ((lrun k m ln s na).2.1)), .int (nI ((lrun k m ln s na).2.2))])), (eL, arC cy 5 ln), (eB, arC cy 5 (if betr (nfl h w d (lrun k m ln s na).1 nb) (lrun k m ln s na).2.1 (lrun k m ln s na).1 b1 bg bt then ln else bs)), (o, .inr (8, [.ref aH, .ref aW, .ref aD, .ref aK, .ref aM, .ref aA, .ref aT, .ref aS, .int (nI ns), .int (nI nb), .int (nI na), .int (nI tm), .int (nI sn)])), (aH, arC cy 8 h), (aW, arC cy 3 w), (aD, arC cy 3 d), (aK, arC cy 5 k), (aM, arC cy 5 m), (aS, .inr (6, [.int (nI s.1), .int (nI s.2.1), .int (nI s.2.2)]))]) := by
  refine Ct_ofV (by decide) (lb rfl) [(0, .ref p), (1, .ref o)] rfl (fun G hM hret => ?_)
  obtain ⟨k1, k2, k3⟩ := id okk
  have e2 := ok.2.1
  refine j_aload_n (pc := 0) hM dX3_tryLine_0 rfl 0 rfl ?_
  refine j_get (pc := 1) hM fd_X3_12 0 rfl rfl dX3_tryLine_1 ?_
  refine j_aload_n (pc := 4) hM dX3_tryLine_4 rfl 1 rfl ?_
  refine j_get (pc := 5) hM fd_X3_49 4 rfl rfl dX3_tryLine_5 ?_
  refine j_callV (pc := 8) hM cv_X3_50 (As := [.ref aS]) (rest := []) (b := eS) (c_X6_become l D cy eS aS e s oks) ⟨lb rfl, lb rfl, lb rfl, lb rfl⟩ rfl 1 rfl rfl [1, 10] [0, 2, 3, 4, 5, 6, 7, 8, 9] [0, 9, 1, 2, 3, 4, 5, 6, 7, 8, 10] [(p, .inr (3, [.ref eS, .ref eL, .ref eB, .int (nI na), .int bf, .int (nI bg), .int (nI bt)])), (eL, arC cy 5 ln), (eB, arC cy 5 bs), (o, .inr (8, [.ref aH, .ref aW, .ref aD, .ref aK, .ref aM, .ref aA, .ref aT, .ref aS, .int (nI ns), .int (nI nb), .int (nI na), .int (nI tm), .int (nI sn)])), (aH, arC cy 8 h), (aW, arC cy 3 w), (aD, arC cy 3 d), (aK, arC cy 5 k), (aM, arC cy 5 m)] (fun _ => [(p, .inr (3, [.ref eS, .ref eL, .ref eB, .int (nI na), .int bf, .int (nI bg), .int (nI bt)])), (eS, .inr (6, [.int (nI s.1), .int (nI s.2.1), .int (nI s.2.2)])), (eL, arC cy 5 ln), (eB, arC cy 5 bs), (o, .inr (8, [.ref aH, .ref aW, .ref aD, .ref aK, .ref aM, .ref aA, .ref aT, .ref aS, .int (nI ns), .int (nI nb), .int (nI na), .int (nI tm), .int (nI sn)])), (aH, arC cy 8 h), (aW, arC cy 3 w), (aD, arC cy 3 d), (aK, arC cy 5 k), (aM, arC cy 5 m), (aS, .inr (6, [.int (nI s.1), .int (nI s.2.1), .int (nI s.2.2)]))]) rfl (by decide) rfl (by decide) (by decide) (by decide) (fun _ => rfl) (lb rfl) dX3_tryLine_8 hM.two (fun _ _ => ?_)
  show G [(p, .inr (3, [.ref eS, .ref eL, .ref eB, .int (nI na), .int bf, .int (nI bg), .int (nI bt)])), (eS, .inr (6, [.int (nI s.1), .int (nI s.2.1), .int (nI s.2.2)])), (eL, arC cy 5 ln), (eB, arC cy 5 bs), (o, .inr (8, [.ref aH, .ref aW, .ref aD, .ref aK, .ref aM, .ref aA, .ref aT, .ref aS, .int (nI ns), .int (nI nb), .int (nI na), .int (nI tm), .int (nI sn)])), (aH, arC cy 8 h), (aW, arC cy 3 w), (aD, arC cy 3 d), (aK, arC cy 5 k), (aM, arC cy 5 m), (aS, .inr (6, [.int (nI s.1), .int (nI s.2.1), .int (nI s.2.2)]))] [(0, .ref p), (1, .ref o)] 11 []
  refine j_iconst (pc := 11) hM (v := nI 0) dX3_tryLine_11 (by decide) ?_
  refine j_istore_n (pc := 12) hM [(2, .int (nI 0)), (0, .ref p), (1, .ref o)] dX3_tryLine_12 rfl (by decide) rfl ?_
  have L13 : ∀ (n13 : Nat) (i : Nat) (e : S3), (i ≤ na) → (e = lrun k m ln s i) → (okS e) → (na - i) < n13 → G [(p, .inr (3, [.ref eS, .ref eL, .ref eB, .int (nI na), .int bf, .int (nI bg), .int (nI bt)])), (eS, .inr (6, [.int (nI e.1), .int (nI e.2.1), .int (nI e.2.2)])), (eL, arC cy 5 ln), (eB, arC cy 5 bs), (o, .inr (8, [.ref aH, .ref aW, .ref aD, .ref aK, .ref aM, .ref aA, .ref aT, .ref aS, .int (nI ns), .int (nI nb), .int (nI na), .int (nI tm), .int (nI sn)])), (aH, arC cy 8 h), (aW, arC cy 3 w), (aD, arC cy 3 d), (aK, arC cy 5 k), (aM, arC cy 5 m), (aS, .inr (6, [.int (nI s.1), .int (nI s.2.1), .int (nI s.2.2)]))] [(0, .ref p), (1, .ref o), (2, .int (nI i))] 13 [] := by
    intro n13
    induction n13 with
    | zero => intro i e hi he hoe hm13; exact absurd hm13 (Nat.not_lt_zero _)
    | succ n13 ih13 =>
      intro i e hi he hoe hm13
      refine j_iload_n (pc := 13) hM dX3_tryLine_13 rfl 2 rfl ?_
      refine j_aload_n (pc := 14) hM dX3_tryLine_14 rfl 0 rfl ?_
      refine j_get (pc := 15) hM fd_X3_25 0 rfl rfl dX3_tryLine_15 ?_
      refine j_icmp_ge (pc := 18) hM 41 dX3_tryLine_18 (by decide) (cLE (by omega) (by omega)) (fun c18 => ?_) (fun c18 => ?_)
      · skip
        have hi2 : i = na := by omega
        rw [hi2] at he
        have hf3 := nfl_le (h := h) (w := w) (d := d) (t := e.1) (n := nb)
        obtain ⟨o1, o2, o3⟩ := id hoe
        refine j_aload_n (pc := 41) hM dX3_tryLine_41 rfl 1 rfl ?_
        refine j_aload_n (pc := 42) hM dX3_tryLine_42 rfl 0 rfl ?_
        refine j_get (pc := 43) hM fd_X3_12 0 rfl rfl dX3_tryLine_43 ?_
        refine j_get (pc := 46) hM fd_X3_58 1 rfl rfl dX3_tryLine_46 ?_
        refine j_callV (pc := 49) hM cv_X3_61 (As := [.int (nI e.1)]) (rest := []) (b := o) (c_X8_boatsAfloat l D cy o aH aW aD aK aM aA aT aS ns nb na tm sn h w d e.1 ok (by first | assumption | omega)) ⟨lb rfl, lb rfl, lb rfl, lb rfl⟩ rfl 4 rfl rfl [4, 5, 6, 7] [0, 1, 2, 3, 8, 9, 10] [0, 1, 2, 3, 7, 8, 9, 10, 4, 5, 6] [(p, .inr (3, [.ref eS, .ref eL, .ref eB, .int (nI na), .int bf, .int (nI bg), .int (nI bt)])), (eS, .inr (6, [.int (nI e.1), .int (nI e.2.1), .int (nI e.2.2)])), (eL, arC cy 5 ln), (eB, arC cy 5 bs), (aK, arC cy 5 k), (aM, arC cy 5 m), (aS, .inr (6, [.int (nI s.1), .int (nI s.2.1), .int (nI s.2.2)]))] (fun _ => [(p, .inr (3, [.ref eS, .ref eL, .ref eB, .int (nI na), .int bf, .int (nI bg), .int (nI bt)])), (eS, .inr (6, [.int (nI e.1), .int (nI e.2.1), .int (nI e.2.2)])), (eL, arC cy 5 ln), (eB, arC cy 5 bs), (o, .inr (8, [.ref aH, .ref aW, .ref aD, .ref aK, .ref aM, .ref aA, .ref aT, .ref aS, .int (nI ns), .int (nI nb), .int (nI na), .int (nI tm), .int (nI sn)])), (aH, arC cy 8 h), (aW, arC cy 3 w), (aD, arC cy 3 d), (aK, arC cy 5 k), (aM, arC cy 5 m), (aS, .inr (6, [.int (nI s.1), .int (nI s.2.1), .int (nI s.2.2)]))]) rfl (by decide) rfl (by decide) (by decide) (by decide) (fun _ => rfl) (lb rfl) dX3_tryLine_49 hM.two (fun _ _ => ?_)
        show G [(p, .inr (3, [.ref eS, .ref eL, .ref eB, .int (nI na), .int bf, .int (nI bg), .int (nI bt)])), (eS, .inr (6, [.int (nI e.1), .int (nI e.2.1), .int (nI e.2.2)])), (eL, arC cy 5 ln), (eB, arC cy 5 bs), (o, .inr (8, [.ref aH, .ref aW, .ref aD, .ref aK, .ref aM, .ref aA, .ref aT, .ref aS, .int (nI ns), .int (nI nb), .int (nI na), .int (nI tm), .int (nI sn)])), (aH, arC cy 8 h), (aW, arC cy 3 w), (aD, arC cy 3 d), (aK, arC cy 5 k), (aM, arC cy 5 m), (aS, .inr (6, [.int (nI s.1), .int (nI s.2.1), .int (nI s.2.2)]))] [(0, .ref p), (1, .ref o), (2, .int (nI i))] 52 [.int (nI (nfl h w d e.1 nb))]
        refine j_istore_n (pc := 52) hM [(2, .int (nI (nfl h w d e.1 nb))), (0, .ref p), (1, .ref o)] dX3_tryLine_52 rfl (by decide) rfl ?_
        refine j_aload_n (pc := 53) hM dX3_tryLine_53 rfl 1 rfl ?_
        refine j_iload_n (pc := 54) hM dX3_tryLine_54 rfl 0 rfl ?_
        refine j_callV (pc := 55) hM cv_X3_65 (As := [.int (nI (nfl h w d e.1 nb))]) (rest := []) (b := p) (c_X3_isBetter l D cy p eS eL eB bf b1 bg bt e na (nfl h w d e.1 nb) hbf hb4 (by first | assumption | omega) hoe hgt) ⟨lb rfl, lb rfl, lb rfl, lb rfl⟩ rfl 0 rfl rfl [0, 1] [2, 3, 4, 5, 6, 7, 8, 9, 10] [9, 10, 0, 1, 2, 3, 4, 5, 6, 7, 8] [(eL, arC cy 5 ln), (eB, arC cy 5 bs), (o, .inr (8, [.ref aH, .ref aW, .ref aD, .ref aK, .ref aM, .ref aA, .ref aT, .ref aS, .int (nI ns), .int (nI nb), .int (nI na), .int (nI tm), .int (nI sn)])), (aH, arC cy 8 h), (aW, arC cy 3 w), (aD, arC cy 3 d), (aK, arC cy 5 k), (aM, arC cy 5 m), (aS, .inr (6, [.int (nI s.1), .int (nI s.2.1), .int (nI s.2.2)]))] (fun _ => [(p, .inr (3, [.ref eS, .ref eL, .ref eB, .int (nI na), .int bf, .int (nI bg), .int (nI bt)])), (eS, .inr (6, [.int (nI e.1), .int (nI e.2.1), .int (nI e.2.2)])), (eL, arC cy 5 ln), (eB, arC cy 5 bs), (o, .inr (8, [.ref aH, .ref aW, .ref aD, .ref aK, .ref aM, .ref aA, .ref aT, .ref aS, .int (nI ns), .int (nI nb), .int (nI na), .int (nI tm), .int (nI sn)])), (aH, arC cy 8 h), (aW, arC cy 3 w), (aD, arC cy 3 d), (aK, arC cy 5 k), (aM, arC cy 5 m), (aS, .inr (6, [.int (nI s.1), .int (nI s.2.1), .int (nI s.2.2)]))]) rfl (by decide) rfl (by decide) (by decide) (by decide) (fun _ => rfl) (lb rfl) dX3_tryLine_55 hM.two (fun _ _ => ?_)
        show G [(p, .inr (3, [.ref eS, .ref eL, .ref eB, .int (nI na), .int bf, .int (nI bg), .int (nI bt)])), (eS, .inr (6, [.int (nI e.1), .int (nI e.2.1), .int (nI e.2.2)])), (eL, arC cy 5 ln), (eB, arC cy 5 bs), (o, .inr (8, [.ref aH, .ref aW, .ref aD, .ref aK, .ref aM, .ref aA, .ref aT, .ref aS, .int (nI ns), .int (nI nb), .int (nI na), .int (nI tm), .int (nI sn)])), (aH, arC cy 8 h), (aW, arC cy 3 w), (aD, arC cy 3 d), (aK, arC cy 5 k), (aM, arC cy 5 m), (aS, .inr (6, [.int (nI s.1), .int (nI s.2.1), .int (nI s.2.2)]))] [(2, .int (nI (nfl h w d e.1 nb))), (0, .ref p), (1, .ref o)] 58 [.int (nI (if betr (nfl h w d e.1 nb) e.2.1 e.1 b1 bg bt then 1 else 0))]
        refine j_if_eqB (pc := 58) (P := (betr (nfl h w d e.1 nb) e.2.1 e.1 b1 bg bt)) hM 102 dX3_tryLine_58 (by decide) b0_eq (fun c58 => ?_) (fun c58 => ?_)
        · skip
          exact hret () _ _ _ trivial (eq7 (fun (z0 : Int32) (z1 : Nat) (z2 : Nat) (z3 : Nat) (z4 : Nat) (z5 : Nat) (z6 : Nat → Nat) => ([(p, .inr (3, [.ref eS, .ref eL, .ref eB, .int (nI na), .int z0, .int (nI z1), .int (nI z2)])), (eS, .inr (6, [.int (nI z3), .int (nI z4), .int (nI z5)])), (eL, arC cy 5 ln), (eB, arC cy 5 z6), (o, .inr (8, [.ref aH, .ref aW, .ref aD, .ref aK, .ref aM, .ref aA, .ref aT, .ref aS, .int (nI ns), .int (nI nb), .int (nI na), .int (nI tm), .int (nI sn)])), (aH, arC cy 8 h), (aW, arC cy 3 w), (aD, arC cy 3 d), (aK, arC cy 5 k), (aM, arC cy 5 m), (aS, .inr (6, [.int (nI s.1), .int (nI s.2.1), .int (nI s.2.2)]))] : va_W)) (show bf = (if betr (nfl h w d (lrun k m ln s na).1 nb) (lrun k m ln s na).2.1 (lrun k m ln s na).1 b1 bg bt then nI (nfl h w d (lrun k m ln s na).1 nb) else bf) from by first | (rw [← he]; done) | (rw [← he, if_pos c58]) | (rw [← he, if_neg c58])) (show bg = (if betr (nfl h w d (lrun k m ln s na).1 nb) (lrun k m ln s na).2.1 (lrun k m ln s na).1 b1 bg bt then (lrun k m ln s na).2.1 else bg) from by first | (rw [← he]; done) | (rw [← he, if_pos c58]) | (rw [← he, if_neg c58])) (show bt = (if betr (nfl h w d (lrun k m ln s na).1 nb) (lrun k m ln s na).2.1 (lrun k m ln s na).1 b1 bg bt then (lrun k m ln s na).1 else bt) from by first | (rw [← he]; done) | (rw [← he, if_pos c58]) | (rw [← he, if_neg c58])) (show e.1 = ((lrun k m ln s na).1) from by first | (rw [← he]; done) | (rw [← he, if_pos c58]) | (rw [← he, if_neg c58])) (show e.2.1 = ((lrun k m ln s na).2.1) from by first | (rw [← he]; done) | (rw [← he, if_pos c58]) | (rw [← he, if_neg c58])) (show e.2.2 = ((lrun k m ln s na).2.2) from by first | (rw [← he]; done) | (rw [← he, if_pos c58]) | (rw [← he, if_neg c58])) (show bs = (if betr (nfl h w d (lrun k m ln s na).1 nb) (lrun k m ln s na).2.1 (lrun k m ln s na).1 b1 bg bt then ln else bs) from by first | (rw [← he]; done) | (rw [← he, if_pos c58]) | (rw [← he, if_neg c58]))) rfl dX3_tryLine_102
        · skip
          refine j_aload_n (pc := 61) hM dX3_tryLine_61 rfl 1 rfl ?_
          refine j_iload_n (pc := 62) hM dX3_tryLine_62 rfl 0 rfl ?_
          refine j_put (pc := 63) hM fp_X3_29 [(p, .inr (3, [.ref eS, .ref eL, .ref eB, .int (nI na), .int (nI (nfl h w d e.1 nb)), .int (nI bg), .int (nI bt)])), (eS, .inr (6, [.int (nI e.1), .int (nI e.2.1), .int (nI e.2.2)])), (eL, arC cy 5 ln), (eB, arC cy 5 bs), (o, .inr (8, [.ref aH, .ref aW, .ref aD, .ref aK, .ref aM, .ref aA, .ref aT, .ref aS, .int (nI ns), .int (nI nb), .int (nI na), .int (nI tm), .int (nI sn)])), (aH, arC cy 8 h), (aW, arC cy 3 w), (aD, arC cy 3 d), (aK, arC cy 5 k), (aM, arC cy 5 m), (aS, .inr (6, [.int (nI s.1), .int (nI s.2.1), .int (nI s.2.2)]))] 0 rfl (lb rfl) rfl rfl rfl dX3_tryLine_63 ?_
          refine j_aload_n (pc := 66) hM dX3_tryLine_66 rfl 1 rfl ?_
          refine j_aload_n (pc := 67) hM dX3_tryLine_67 rfl 1 rfl ?_
          refine j_get (pc := 68) hM fd_X3_12 0 rfl rfl dX3_tryLine_68 ?_
          refine j_get (pc := 71) hM fd_X3_69 1 rfl rfl dX3_tryLine_71 ?_
          refine j_put (pc := 74) hM fp_X3_32 [(p, .inr (3, [.ref eS, .ref eL, .ref eB, .int (nI na), .int (nI (nfl h w d e.1 nb)), .int (nI e.2.1), .int (nI bt)])), (eS, .inr (6, [.int (nI e.1), .int (nI e.2.1), .int (nI e.2.2)])), (eL, arC cy 5 ln), (eB, arC cy 5 bs), (o, .inr (8, [.ref aH, .ref aW, .ref aD, .ref aK, .ref aM, .ref aA, .ref aT, .ref aS, .int (nI ns), .int (nI nb), .int (nI na), .int (nI tm), .int (nI sn)])), (aH, arC cy 8 h), (aW, arC cy 3 w), (aD, arC cy 3 d), (aK, arC cy 5 k), (aM, arC cy 5 m), (aS, .inr (6, [.int (nI s.1), .int (nI s.2.1), .int (nI s.2.2)]))] 0 rfl (lb rfl) rfl rfl rfl dX3_tryLine_74 ?_
          refine j_aload_n (pc := 77) hM dX3_tryLine_77 rfl 1 rfl ?_
          refine j_aload_n (pc := 78) hM dX3_tryLine_78 rfl 1 rfl ?_
          refine j_get (pc := 79) hM fd_X3_12 0 rfl rfl dX3_tryLine_79 ?_
          refine j_get (pc := 82) hM fd_X3_58 1 rfl rfl dX3_tryLine_82 ?_
          refine j_put (pc := 85) hM fp_X3_35 [(p, .inr (3, [.ref eS, .ref eL, .ref eB, .int (nI na), .int (nI (nfl h w d e.1 nb)), .int (nI e.2.1), .int (nI e.1)])), (eS, .inr (6, [.int (nI e.1), .int (nI e.2.1), .int (nI e.2.2)])), (eL, arC cy 5 ln), (eB, arC cy 5 bs), (o, .inr (8, [.ref aH, .ref aW, .ref aD, .ref aK, .ref aM, .ref aA, .ref aT, .ref aS, .int (nI ns), .int (nI nb), .int (nI na), .int (nI tm), .int (nI sn)])), (aH, arC cy 8 h), (aW, arC cy 3 w), (aD, arC cy 3 d), (aK, arC cy 5 k), (aM, arC cy 5 m), (aS, .inr (6, [.int (nI s.1), .int (nI s.2.1), .int (nI s.2.2)]))] 0 rfl (lb rfl) rfl rfl rfl dX3_tryLine_85 ?_
          refine j_aload_n (pc := 88) hM dX3_tryLine_88 rfl 1 rfl ?_
          refine j_get (pc := 89) hM fd_X3_18 0 rfl rfl dX3_tryLine_89 ?_
          refine j_iconst (pc := 92) hM (v := nI 0) dX3_tryLine_92 (by decide) ?_
          refine j_aload_n (pc := 93) hM dX3_tryLine_93 rfl 1 rfl ?_
          refine j_get (pc := 94) hM fd_X3_22 0 rfl rfl dX3_tryLine_94 ?_
          refine j_iconst (pc := 97) hM (v := nI 0) dX3_tryLine_97 (by decide) ?_
          refine j_iconst (pc := 98) hM (v := nI 5) dX3_tryLine_98 (by decide) ?_
          refine j_cpN (pc := 99) hM ml_X3_72 mw_copy [(p, .inr (3, [.ref eS, .ref eL, .ref eB, .int (nI na), .int (nI (nfl h w d e.1 nb)), .int (nI e.2.1), .int (nI e.1)])), (eS, .inr (6, [.int (nI e.1), .int (nI e.2.1), .int (nI e.2.2)])), (eL, arC cy 5 ln), (eB, arC cy 5 ln), (o, .inr (8, [.ref aH, .ref aW, .ref aD, .ref aK, .ref aM, .ref aA, .ref aT, .ref aS, .int (nI ns), .int (nI nb), .int (nI na), .int (nI tm), .int (nI sn)])), (aH, arC cy 8 h), (aW, arC cy 3 w), (aD, arC cy 3 d), (aK, arC cy 5 k), (aM, arC cy 5 m), (aS, .inr (6, [.int (nI s.1), .int (nI s.2.1), .int (nI s.2.2)]))] 2 3 rfl rfl (by decide) ⟨lb rfl, lb rfl⟩ rfl dX3_tryLine_99 ?_
          exact hret () _ _ _ trivial (eq7 (fun (z0 : Int32) (z1 : Nat) (z2 : Nat) (z3 : Nat) (z4 : Nat) (z5 : Nat) (z6 : Nat → Nat) => ([(p, .inr (3, [.ref eS, .ref eL, .ref eB, .int (nI na), .int z0, .int (nI z1), .int (nI z2)])), (eS, .inr (6, [.int (nI z3), .int (nI z4), .int (nI z5)])), (eL, arC cy 5 ln), (eB, arC cy 5 z6), (o, .inr (8, [.ref aH, .ref aW, .ref aD, .ref aK, .ref aM, .ref aA, .ref aT, .ref aS, .int (nI ns), .int (nI nb), .int (nI na), .int (nI tm), .int (nI sn)])), (aH, arC cy 8 h), (aW, arC cy 3 w), (aD, arC cy 3 d), (aK, arC cy 5 k), (aM, arC cy 5 m), (aS, .inr (6, [.int (nI s.1), .int (nI s.2.1), .int (nI s.2.2)]))] : va_W)) (show (nI (nfl h w d e.1 nb)) = (if betr (nfl h w d (lrun k m ln s na).1 nb) (lrun k m ln s na).2.1 (lrun k m ln s na).1 b1 bg bt then nI (nfl h w d (lrun k m ln s na).1 nb) else bf) from by first | (rw [← he]; done) | (rw [← he, if_pos c58]) | (rw [← he, if_neg c58])) (show e.2.1 = (if betr (nfl h w d (lrun k m ln s na).1 nb) (lrun k m ln s na).2.1 (lrun k m ln s na).1 b1 bg bt then (lrun k m ln s na).2.1 else bg) from by first | (rw [← he]; done) | (rw [← he, if_pos c58]) | (rw [← he, if_neg c58])) (show e.1 = (if betr (nfl h w d (lrun k m ln s na).1 nb) (lrun k m ln s na).2.1 (lrun k m ln s na).1 b1 bg bt then (lrun k m ln s na).1 else bt) from by first | (rw [← he]; done) | (rw [← he, if_pos c58]) | (rw [← he, if_neg c58])) (show e.1 = ((lrun k m ln s na).1) from by first | (rw [← he]; done) | (rw [← he, if_pos c58]) | (rw [← he, if_neg c58])) (show e.2.1 = ((lrun k m ln s na).2.1) from by first | (rw [← he]; done) | (rw [← he, if_pos c58]) | (rw [← he, if_neg c58])) (show e.2.2 = ((lrun k m ln s na).2.2) from by first | (rw [← he]; done) | (rw [← he, if_pos c58]) | (rw [← he, if_neg c58])) (show ln = (if betr (nfl h w d (lrun k m ln s na).1 nb) (lrun k m ln s na).2.1 (lrun k m ln s na).1 b1 bg bt then ln else bs) from by first | (rw [← he]; done) | (rw [← he, if_pos c58]) | (rw [← he, if_neg c58]))) rfl dX3_tryLine_102
      · skip
        refine j_aload_n (pc := 21) hM dX3_tryLine_21 rfl 1 rfl ?_
        refine j_aload_n (pc := 22) hM dX3_tryLine_22 rfl 0 rfl ?_
        refine j_get (pc := 23) hM fd_X3_18 0 rfl rfl dX3_tryLine_23 ?_
        refine j_iload_n (pc := 26) hM dX3_tryLine_26 rfl 2 rfl ?_
        refine j_ldN (pc := 27) hM (v := ln i) 2 rfl (by omega) (by decide) rfl dX3_tryLine_27 ?_
        have b27 := hln i (by omega)
        refine j_aload_n (pc := 28) hM dX3_tryLine_28 rfl 0 rfl ?_
        refine j_get (pc := 29) hM fd_X3_12 0 rfl rfl dX3_tryLine_29 ?_
        refine j_callV (pc := 32) hM cv_X3_54 (As := [.int (nI (ln i)), .ref eS]) (rest := []) (b := o) (c_X8_letAsk l D cy o aH aW aD aK aM aA aT aS ns nb na tm sn k m eS e (ln i) okk hoe (by omega)) ⟨lb rfl, lb rfl, lb rfl, lb rfl⟩ rfl 4 rfl rfl [4, 8, 9, 1] [0, 2, 3, 5, 6, 7, 10] [0, 10, 1, 2, 7, 3, 4, 5, 8, 9, 6] [(p, .inr (3, [.ref eS, .ref eL, .ref eB, .int (nI na), .int bf, .int (nI bg), .int (nI bt)])), (eL, arC cy 5 ln), (eB, arC cy 5 bs), (aH, arC cy 8 h), (aW, arC cy 3 w), (aD, arC cy 3 d), (aS, .inr (6, [.int (nI s.1), .int (nI s.2.1), .int (nI s.2.2)]))] (fun _ => [(p, .inr (3, [.ref eS, .ref eL, .ref eB, .int (nI na), .int bf, .int (nI bg), .int (nI bt)])), (eS, .inr (6, [.int (nI ((hear (k (ln i)) (m (ln i)) e).1)), .int (nI ((hear (k (ln i)) (m (ln i)) e).2.1)), .int (nI ((hear (k (ln i)) (m (ln i)) e).2.2))])), (eL, arC cy 5 ln), (eB, arC cy 5 bs), (o, .inr (8, [.ref aH, .ref aW, .ref aD, .ref aK, .ref aM, .ref aA, .ref aT, .ref aS, .int (nI ns), .int (nI nb), .int (nI na), .int (nI tm), .int (nI sn)])), (aH, arC cy 8 h), (aW, arC cy 3 w), (aD, arC cy 3 d), (aK, arC cy 5 k), (aM, arC cy 5 m), (aS, .inr (6, [.int (nI s.1), .int (nI s.2.1), .int (nI s.2.2)]))]) rfl (by decide) rfl (by decide) (by decide) (by decide) (fun _ => rfl) (lb rfl) dX3_tryLine_32 hM.two (fun _ _ => ?_)
        show G [(p, .inr (3, [.ref eS, .ref eL, .ref eB, .int (nI na), .int bf, .int (nI bg), .int (nI bt)])), (eS, .inr (6, [.int (nI ((hear (k (ln i)) (m (ln i)) e).1)), .int (nI ((hear (k (ln i)) (m (ln i)) e).2.1)), .int (nI ((hear (k (ln i)) (m (ln i)) e).2.2))])), (eL, arC cy 5 ln), (eB, arC cy 5 bs), (o, .inr (8, [.ref aH, .ref aW, .ref aD, .ref aK, .ref aM, .ref aA, .ref aT, .ref aS, .int (nI ns), .int (nI nb), .int (nI na), .int (nI tm), .int (nI sn)])), (aH, arC cy 8 h), (aW, arC cy 3 w), (aD, arC cy 3 d), (aK, arC cy 5 k), (aM, arC cy 5 m), (aS, .inr (6, [.int (nI s.1), .int (nI s.2.1), .int (nI s.2.2)]))] [(0, .ref p), (1, .ref o), (2, .int (nI i))] 35 []
        refine j_iinc (pc := 35) hM (n' := 2) [(2, .int (nI (i + 1))), (0, .ref p), (1, .ref o)] dX3_tryLine_35 rfl (nI_add _ 1) (by decide) rfl ?_
        refine j_goto (pc := 38) hM 13 dX3_tryLine_38 (by decide) ?_
        refine j_lv (pc := 13) hM [1, 2, 0] rfl ?_
        exact ih13 (i + 1) (hear (k (ln i)) (m (ln i)) e) (by omega) (by rw [he]; rfl) (ok_hear hoe) (by omega)
  refine j_lv (pc := 13) hM [1, 2, 0] rfl ?_
  exact L13 _ 0 s (by omega) rfl oks (Nat.lt_succ_self _)
set_option maxHeartbeats 4000000 in
set_option maxRecDepth 100000 in
theorem c_X3_nextLine (l : Launch) (D : va_G) (cy : ClassId) (p : Nat) (eS : Nat) (eL : Nat) (eB : Nat) (na : Nat) (bf : Int32) (bg : Nat) (bt : Nat) (ln : Nat → Nat) (hn2 : 2 ≤ na) (hn5 : na ≤ 5) (hln : ∀ i, i < na → ln i < na) : Ct (σ := Unit) l D cy yX3_nextLine cX3_nextLine 5 (some .boolean) { frames := 1, cells := 0, slots := 0, locals := 23 } [.ref p] [(p, .inr (3, [.ref eS, .ref eL, .ref eB, .int (nI na), .int bf, .int (nI bg), .int (nI bt)])), (eL, arC cy 5 ln)] (fun _ => True) (fun _ => some (.int (nI (if 0 < fl ln (na - 1) then 1 else 0)))) (fun _ => [(p, .inr (3, [.ref eS, .ref eL, .ref eB, .int (nI na), .int bf, .int (nI bg), .int (nI bt)])), (eL, arC cy 5 (if 0 < fl ln (na - 1) then nxtF na ln else ln))]) := by
  refine Ct_ofI (by decide) (lb rfl) [(0, .ref p)] rfl (fun G hM hret => ?_)
  refine j_aload_n (pc := 0) hM dX3_nextLine_0 rfl 0 rfl ?_
  refine j_get (pc := 1) hM fd_X3_25 0 rfl rfl dX3_nextLine_1 ?_
  refine j_iconst (pc := 4) hM (v := nI 2) dX3_nextLine_4 (by decide) ?_
  refine j_isub (pc := 5) hM (v := nI (na - 2)) dX3_nextLine_5 (nsub (by omega)) ?_
  refine j_istore_n (pc := 6) hM [(1, .int (nI (na - 2))), (0, .ref p)] dX3_nextLine_6 rfl (by decide) rfl ?_
  have L7 : ∀ (n7 : Nat) (x : Int32) (q : Nat), (x = nI q - nI 1) → (fl ln q = fl ln (na - 1)) → (q ≤ na - 1) → q < n7 → G [(p, .inr (3, [.ref eS, .ref eL, .ref eB, .int (nI na), .int bf, .int (nI bg), .int (nI bt)])), (eL, arC cy 5 ln)] [(0, .ref p), (1, .int x)] 7 [] := by
    intro n7
    induction n7 with
    | zero => intro x q hx hq hq5 hm7; exact absurd hm7 (Nat.not_lt_zero _)
    | succ n7 ih7 =>
      intro x q hx hq hq5 hm7
      refine j_iload_n (pc := 7) hM dX3_nextLine_7 rfl 1 rfl ?_
      refine j_if_lt (pc := 8) (P := q = 0) hM 34 dX3_nextLine_8 (by decide) (m1_lt hx (by omega)) (fun c8 => ?_) (fun c8 => ?_)
      · skip
        have hx2 : x = -1 := by rw [hx, c8]; decide
        subst hx2
        have hLF : fl ln (na - 1) = 0 := by rw [← hq, c8]; rfl
        refine j_iload_n (pc := 34) hM dX3_nextLine_34 rfl 1 rfl ?_
        refine j_if_ge (pc := 35) hM 40 dX3_nextLine_35 (by decide) z0_ge (fun c35 => ?_) (fun c35 => ?_)
        · skip
          exact absurd c35 (by decide)
        · skip
          refine j_iconst (pc := 38) hM (v := nI 0) dX3_nextLine_38 (by decide) ?_
          exact hret () _ _ _ _ trivial (eq1 (fun (z0 : Nat → Nat) => ([(p, .inr (3, [.ref eS, .ref eL, .ref eB, .int (nI na), .int bf, .int (nI bg), .int (nI bt)])), (eL, arC cy 5 z0)] : va_W)) (show ln = (if 0 < fl ln (na - 1) then nxtF na ln else ln) from by rw [if_neg (by omega)])) (sI (show 0 = (if 0 < fl ln (na - 1) then 1 else 0) from by rw [if_neg (by omega)])) rfl dX3_nextLine_39
      · skip
        have hx2 : x = nI (q - 1) := by rw [hx, nsub (by omega)]
        subst hx2
        refine j_aload_n (pc := 11) hM dX3_nextLine_11 rfl 0 rfl ?_
        refine j_get (pc := 12) hM fd_X3_18 0 rfl rfl dX3_nextLine_12 ?_
        refine j_iload_n (pc := 15) hM dX3_nextLine_15 rfl 1 rfl ?_
        refine j_ldN (pc := 16) hM (v := ln (q - 1)) 1 rfl (by omega) (by decide) rfl dX3_nextLine_16 ?_
        have b16 := hln (q - 1) (by omega)
        refine j_aload_n (pc := 17) hM dX3_nextLine_17 rfl 0 rfl ?_
        refine j_get (pc := 18) hM fd_X3_18 0 rfl rfl dX3_nextLine_18 ?_
        refine j_iload_n (pc := 21) hM dX3_nextLine_21 rfl 1 rfl ?_
        refine j_iconst (pc := 22) hM (v := nI 1) dX3_nextLine_22 (by decide) ?_
        refine j_iadd (pc := 23) hM (v := nI ((q - 1) + 1)) dX3_nextLine_23 (nI_add _ _) ?_
        refine j_ldN (pc := 24) hM (v := ln ((q - 1) + 1)) 1 rfl (by omega) (by decide) rfl dX3_nextLine_24 ?_
        have b24 := hln ((q - 1) + 1) (by omega)
        refine j_icmp_le (pc := 25) hM 34 dX3_nextLine_25 (by decide) (cLE (by omega) (by omega)) (fun c25 => ?_) (fun c25 => ?_)
        · skip
          rw [show q - 1 + 1 = q by omega] at c25
          have hLF : fl ln (na - 1) = q := by rw [← hq]; exact fl_out (by omega) c25
          refine j_iload_n (pc := 34) hM dX3_nextLine_34 rfl 1 rfl ?_
          refine j_if_ge (pc := 35) hM 40 dX3_nextLine_35 (by decide) (i0_ge (by omega)) (fun c35 => ?_) (fun c35 => ?_)
          · skip
            refine j_aload_n (pc := 40) hM dX3_nextLine_40 rfl 0 rfl ?_
            refine j_get (pc := 41) hM fd_X3_25 0 rfl rfl dX3_nextLine_41 ?_
            refine j_iconst (pc := 44) hM (v := nI 1) dX3_nextLine_44 (by decide) ?_
            refine j_isub (pc := 45) hM (v := nI (na - 1)) dX3_nextLine_45 (nsub (by omega)) ?_
            refine j_istore_n (pc := 46) hM [(2, .int (nI (na - 1))), (0, .ref p), (1, .int (nI (q - 1)))] dX3_nextLine_46 rfl (by decide) rfl ?_
            have L47 : ∀ (n47 : Nat) (r : Nat), (fr ln (q - 1) r = fr ln (q - 1) (na - 1)) → (r ≤ na - 1) → r < n47 → G [(p, .inr (3, [.ref eS, .ref eL, .ref eB, .int (nI na), .int bf, .int (nI bg), .int (nI bt)])), (eL, arC cy 5 ln)] [(0, .ref p), (1, .int (nI (q - 1))), (2, .int (nI r))] 47 [] := by
              intro n47
              induction n47 with
              | zero => intro r hr hr5 hm47; exact absurd hm47 (Nat.not_lt_zero _)
              | succ n47 ih47 =>
                intro r hr hr5 hm47
                refine j_iload_n (pc := 47) hM dX3_nextLine_47 rfl 2 rfl ?_
                refine j_iload_n (pc := 48) hM dX3_nextLine_48 rfl 1 rfl ?_
                refine j_icmp_le (pc := 49) hM 73 dX3_nextLine_49 (by decide) (cLE (by omega) (by omega)) (fun c49 => ?_) (fun c49 => ?_)
                · skip
                  have hFR : fr ln (q - 1) (na - 1) = r := by rw [← hr]; exact fr_out (Or.inl c49)
                  refine j_aload_n (pc := 73) hM dX3_nextLine_73 rfl 0 rfl ?_
                  refine j_iload_n (pc := 74) hM dX3_nextLine_74 rfl 1 rfl ?_
                  refine j_iload_n (pc := 75) hM dX3_nextLine_75 rfl 2 rfl ?_
                  refine j_callV (pc := 76) hM cv_X3_78 (As := [.int (nI (q - 1)), .int (nI r)]) (rest := []) (b := p) (c_X3_swap l D cy p eS eL eB na bf bg bt (q - 1) r ln (by first | assumption | omega) (by first | assumption | omega)) ⟨lb rfl, lb rfl, lb rfl, lb rfl⟩ rfl 0 rfl rfl [0, 1] [] [0, 1] [] (fun _ => [(p, .inr (3, [.ref eS, .ref eL, .ref eB, .int (nI na), .int bf, .int (nI bg), .int (nI bt)])), (eL, arC cy 5 (sw ln (q - 1) r))]) rfl (by decide) rfl (by decide) (by decide) (by decide) (fun _ => rfl) (lb rfl) dX3_nextLine_76 hM.two (fun _ _ => ?_)
                  show G [(p, .inr (3, [.ref eS, .ref eL, .ref eB, .int (nI na), .int bf, .int (nI bg), .int (nI bt)])), (eL, arC cy 5 (sw ln (q - 1) r))] [(0, .ref p), (1, .int (nI (q - 1))), (2, .int (nI r))] 79 []
                  refine j_iload_n (pc := 79) hM dX3_nextLine_79 rfl 1 rfl ?_
                  refine j_iconst (pc := 80) hM (v := nI 1) dX3_nextLine_80 (by decide) ?_
                  refine j_iadd (pc := 81) hM (v := nI ((q - 1) + 1)) dX3_nextLine_81 (nI_add _ _) ?_
                  refine j_istore_n (pc := 82) hM [(3, .int (nI ((q - 1) + 1))), (0, .ref p), (1, .int (nI (q - 1))), (2, .int (nI r))] dX3_nextLine_82 rfl (by decide) rfl ?_
                  refine j_aload_n (pc := 83) hM dX3_nextLine_83 rfl 1 rfl ?_
                  refine j_get (pc := 84) hM fd_X3_25 0 rfl rfl dX3_nextLine_84 ?_
                  refine j_iconst (pc := 87) hM (v := nI 1) dX3_nextLine_87 (by decide) ?_
                  refine j_isub (pc := 88) hM (v := nI (na - 1)) dX3_nextLine_88 (nsub (by omega)) ?_
                  refine j_istore (pc := 89) hM [(4, .int (nI (na - 1))), (3, .int (nI ((q - 1) + 1))), (0, .ref p), (1, .int (nI (q - 1))), (2, .int (nI r))] dX3_nextLine_89 (by decide) rfl ?_
                  have L91 : ∀ (n91 : Nat) (i : Nat) (j : Nat) (F : Nat → Nat) (f : Nat), (rv f F i j = nxtF na ln) → (i ≤ 5) → (j < na) → (j ≤ i + f) → (j - i) < n91 → G [(p, .inr (3, [.ref eS, .ref eL, .ref eB, .int (nI na), .int bf, .int (nI bg), .int (nI bt)])), (eL, arC cy 5 F)] [(0, .ref p), (1, .int (nI (q - 1))), (2, .int (nI r)), (3, .int (nI i)), (4, .int (nI j))] 91 [] := by
                    intro n91
                    induction n91 with
                    | zero => intro i j F f hF hi5 hj5 hf hm91; exact absurd hm91 (Nat.not_lt_zero _)
                    | succ n91 ih91 =>
                      intro i j F f hF hi5 hj5 hf hm91
                      refine j_iload_n (pc := 91) hM dX3_nextLine_91 rfl 3 rfl ?_
                      refine j_iload (pc := 92) hM dX3_nextLine_92 4 rfl ?_
                      refine j_icmp_ge (pc := 94) hM 113 dX3_nextLine_94 (by decide) (cLE (by omega) (by omega)) (fun c94 => ?_) (fun c94 => ?_)
                      · skip
                        refine j_iconst (pc := 113) hM (v := nI 1) dX3_nextLine_113 (by decide) ?_
                        exact hret () _ _ _ _ trivial (eq1 (fun (z0 : Nat → Nat) => ([(p, .inr (3, [.ref eS, .ref eL, .ref eB, .int (nI na), .int bf, .int (nI bg), .int (nI bt)])), (eL, arC cy 5 z0)] : va_W)) (show F = (if 0 < fl ln (na - 1) then nxtF na ln else ln) from by rw [if_pos (by omega), ← hF, rv_out (by omega)])) (sI (show 1 = (if 0 < fl ln (na - 1) then 1 else 0) from by rw [if_pos (by omega)])) rfl dX3_nextLine_114
                      · skip
                        refine j_aload_n (pc := 97) hM dX3_nextLine_97 rfl 0 rfl ?_
                        refine j_iload_n (pc := 98) hM dX3_nextLine_98 rfl 3 rfl ?_
                        refine j_iload (pc := 99) hM dX3_nextLine_99 4 rfl ?_
                        refine j_callV (pc := 101) hM cv_X3_78 (As := [.int (nI i), .int (nI j)]) (rest := []) (b := p) (c_X3_swap l D cy p eS eL eB na bf bg bt i j F (by first | assumption | omega) (by first | assumption | omega)) ⟨lb rfl, lb rfl, lb rfl, lb rfl⟩ rfl 0 rfl rfl [0, 1] [] [0, 1] [] (fun _ => [(p, .inr (3, [.ref eS, .ref eL, .ref eB, .int (nI na), .int bf, .int (nI bg), .int (nI bt)])), (eL, arC cy 5 (sw F i j))]) rfl (by decide) rfl (by decide) (by decide) (by decide) (fun _ => rfl) (lb rfl) dX3_nextLine_101 hM.two (fun _ _ => ?_)
                        show G [(p, .inr (3, [.ref eS, .ref eL, .ref eB, .int (nI na), .int bf, .int (nI bg), .int (nI bt)])), (eL, arC cy 5 (sw F i j))] [(0, .ref p), (1, .int (nI (q - 1))), (2, .int (nI r)), (3, .int (nI i)), (4, .int (nI j))] 104 []
                        refine j_iinc (pc := 104) hM (n' := 3) [(3, .int (nI (i + 1))), (0, .ref p), (1, .int (nI (q - 1))), (2, .int (nI r)), (4, .int (nI j))] dX3_nextLine_104 rfl (nI_add _ 1) (by decide) rfl ?_
                        refine j_iinc (pc := 107) hM (n' := 4) [(4, .int (nI (j - 1))), (3, .int (nI (i + 1))), (0, .ref p), (1, .int (nI (q - 1))), (2, .int (nI r))] dX3_nextLine_107 rfl (by rw [show Int32.ofInt (-1) = -nI 1 from by decide, ← Int32.sub_eq_add_neg, nsub (by omega)]) (by decide) rfl ?_
                        refine j_goto (pc := 110) hM 91 dX3_nextLine_110 (by decide) ?_
                        refine j_lv (pc := 91) hM [2, 3, 4, 1, 0] rfl ?_
                        exact ih91 (i + 1) (j - 1) (sw F i j) (f - 1) ((rv_in (by omega) (by omega)).symm.trans hF) (by omega) (by omega) (by omega) (by omega)
                  refine j_lv (pc := 91) hM [2, 3, 4, 1, 0] rfl ?_
                  exact L91 _ ((q - 1) + 1) (na - 1) (sw ln (q - 1) r) 5 (by simp only [nxtF]; rw [hLF, hFR, show q - 1 + 1 = q by omega]) (by omega) (by omega) (by omega) (Nat.lt_succ_self _)
                · skip
                  refine j_aload_n (pc := 52) hM dX3_nextLine_52 rfl 0 rfl ?_
                  refine j_get (pc := 53) hM fd_X3_18 0 rfl rfl dX3_nextLine_53 ?_
                  refine j_iload_n (pc := 56) hM dX3_nextLine_56 rfl 2 rfl ?_
                  refine j_ldN (pc := 57) hM (v := ln r) 1 rfl (by omega) (by decide) rfl dX3_nextLine_57 ?_
                  have b57 := hln r (by omega)
                  refine j_aload_n (pc := 58) hM dX3_nextLine_58 rfl 0 rfl ?_
                  refine j_get (pc := 59) hM fd_X3_18 0 rfl rfl dX3_nextLine_59 ?_
                  refine j_iload_n (pc := 62) hM dX3_nextLine_62 rfl 1 rfl ?_
                  refine j_ldN (pc := 63) hM (v := ln (q - 1)) 1 rfl (by omega) (by decide) rfl dX3_nextLine_63 ?_
                  have b63 := hln (q - 1) (by omega)
                  refine j_icmp_ge (pc := 64) hM 73 dX3_nextLine_64 (by decide) (cLE (by omega) (by omega)) (fun c64 => ?_) (fun c64 => ?_)
                  · skip
                    have hFR : fr ln (q - 1) (na - 1) = r := by rw [← hr]; exact fr_out (Or.inr c64)
                    refine j_aload_n (pc := 73) hM dX3_nextLine_73 rfl 0 rfl ?_
                    refine j_iload_n (pc := 74) hM dX3_nextLine_74 rfl 1 rfl ?_
                    refine j_iload_n (pc := 75) hM dX3_nextLine_75 rfl 2 rfl ?_
                    refine j_callV (pc := 76) hM cv_X3_78 (As := [.int (nI (q - 1)), .int (nI r)]) (rest := []) (b := p) (c_X3_swap l D cy p eS eL eB na bf bg bt (q - 1) r ln (by first | assumption | omega) (by first | assumption | omega)) ⟨lb rfl, lb rfl, lb rfl, lb rfl⟩ rfl 0 rfl rfl [0, 1] [] [0, 1] [] (fun _ => [(p, .inr (3, [.ref eS, .ref eL, .ref eB, .int (nI na), .int bf, .int (nI bg), .int (nI bt)])), (eL, arC cy 5 (sw ln (q - 1) r))]) rfl (by decide) rfl (by decide) (by decide) (by decide) (fun _ => rfl) (lb rfl) dX3_nextLine_76 hM.two (fun _ _ => ?_)
                    show G [(p, .inr (3, [.ref eS, .ref eL, .ref eB, .int (nI na), .int bf, .int (nI bg), .int (nI bt)])), (eL, arC cy 5 (sw ln (q - 1) r))] [(0, .ref p), (1, .int (nI (q - 1))), (2, .int (nI r))] 79 []
                    refine j_iload_n (pc := 79) hM dX3_nextLine_79 rfl 1 rfl ?_
                    refine j_iconst (pc := 80) hM (v := nI 1) dX3_nextLine_80 (by decide) ?_
                    refine j_iadd (pc := 81) hM (v := nI ((q - 1) + 1)) dX3_nextLine_81 (nI_add _ _) ?_
                    refine j_istore_n (pc := 82) hM [(3, .int (nI ((q - 1) + 1))), (0, .ref p), (1, .int (nI (q - 1))), (2, .int (nI r))] dX3_nextLine_82 rfl (by decide) rfl ?_
                    refine j_aload_n (pc := 83) hM dX3_nextLine_83 rfl 1 rfl ?_
                    refine j_get (pc := 84) hM fd_X3_25 0 rfl rfl dX3_nextLine_84 ?_
                    refine j_iconst (pc := 87) hM (v := nI 1) dX3_nextLine_87 (by decide) ?_
                    refine j_isub (pc := 88) hM (v := nI (na - 1)) dX3_nextLine_88 (nsub (by omega)) ?_
                    refine j_istore (pc := 89) hM [(4, .int (nI (na - 1))), (3, .int (nI ((q - 1) + 1))), (0, .ref p), (1, .int (nI (q - 1))), (2, .int (nI r))] dX3_nextLine_89 (by decide) rfl ?_
                    have L91 : ∀ (n91 : Nat) (i : Nat) (j : Nat) (F : Nat → Nat) (f : Nat), (rv f F i j = nxtF na ln) → (i ≤ 5) → (j < na) → (j ≤ i + f) → (j - i) < n91 → G [(p, .inr (3, [.ref eS, .ref eL, .ref eB, .int (nI na), .int bf, .int (nI bg), .int (nI bt)])), (eL, arC cy 5 F)] [(0, .ref p), (1, .int (nI (q - 1))), (2, .int (nI r)), (3, .int (nI i)), (4, .int (nI j))] 91 [] := by
                      intro n91
                      induction n91 with
                      | zero => intro i j F f hF hi5 hj5 hf hm91; exact absurd hm91 (Nat.not_lt_zero _)
                      | succ n91 ih91 =>
                        intro i j F f hF hi5 hj5 hf hm91
                        refine j_iload_n (pc := 91) hM dX3_nextLine_91 rfl 3 rfl ?_
                        refine j_iload (pc := 92) hM dX3_nextLine_92 4 rfl ?_
                        refine j_icmp_ge (pc := 94) hM 113 dX3_nextLine_94 (by decide) (cLE (by omega) (by omega)) (fun c94 => ?_) (fun c94 => ?_)
                        · skip
                          refine j_iconst (pc := 113) hM (v := nI 1) dX3_nextLine_113 (by decide) ?_
                          exact hret () _ _ _ _ trivial (eq1 (fun (z0 : Nat → Nat) => ([(p, .inr (3, [.ref eS, .ref eL, .ref eB, .int (nI na), .int bf, .int (nI bg), .int (nI bt)])), (eL, arC cy 5 z0)] : va_W)) (show F = (if 0 < fl ln (na - 1) then nxtF na ln else ln) from by rw [if_pos (by omega), ← hF, rv_out (by omega)])) (sI (show 1 = (if 0 < fl ln (na - 1) then 1 else 0) from by rw [if_pos (by omega)])) rfl dX3_nextLine_114
                        · skip
                          refine j_aload_n (pc := 97) hM dX3_nextLine_97 rfl 0 rfl ?_
                          refine j_iload_n (pc := 98) hM dX3_nextLine_98 rfl 3 rfl ?_
                          refine j_iload (pc := 99) hM dX3_nextLine_99 4 rfl ?_
                          refine j_callV (pc := 101) hM cv_X3_78 (As := [.int (nI i), .int (nI j)]) (rest := []) (b := p) (c_X3_swap l D cy p eS eL eB na bf bg bt i j F (by first | assumption | omega) (by first | assumption | omega)) ⟨lb rfl, lb rfl, lb rfl, lb rfl⟩ rfl 0 rfl rfl [0, 1] [] [0, 1] [] (fun _ => [(p, .inr (3, [.ref eS, .ref eL, .ref eB, .int (nI na), .int bf, .int (nI bg), .int (nI bt)])), (eL, arC cy 5 (sw F i j))]) rfl (by decide) rfl (by decide) (by decide) (by decide) (fun _ => rfl) (lb rfl) dX3_nextLine_101 hM.two (fun _ _ => ?_)
                          show G [(p, .inr (3, [.ref eS, .ref eL, .ref eB, .int (nI na), .int bf, .int (nI bg), .int (nI bt)])), (eL, arC cy 5 (sw F i j))] [(0, .ref p), (1, .int (nI (q - 1))), (2, .int (nI r)), (3, .int (nI i)), (4, .int (nI j))] 104 []
                          refine j_iinc (pc := 104) hM (n' := 3) [(3, .int (nI (i + 1))), (0, .ref p), (1, .int (nI (q - 1))), (2, .int (nI r)), (4, .int (nI j))] dX3_nextLine_104 rfl (nI_add _ 1) (by decide) rfl ?_
                          refine j_iinc (pc := 107) hM (n' := 4) [(4, .int (nI (j - 1))), (3, .int (nI (i + 1))), (0, .ref p), (1, .int (nI (q - 1))), (2, .int (nI r))] dX3_nextLine_107 rfl (by rw [show Int32.ofInt (-1) = -nI 1 from by decide, ← Int32.sub_eq_add_neg, nsub (by omega)]) (by decide) rfl ?_
                          refine j_goto (pc := 110) hM 91 dX3_nextLine_110 (by decide) ?_
                          refine j_lv (pc := 91) hM [2, 3, 4, 1, 0] rfl ?_
                          exact ih91 (i + 1) (j - 1) (sw F i j) (f - 1) ((rv_in (by omega) (by omega)).symm.trans hF) (by omega) (by omega) (by omega) (by omega)
                    refine j_lv (pc := 91) hM [2, 3, 4, 1, 0] rfl ?_
                    exact L91 _ ((q - 1) + 1) (na - 1) (sw ln (q - 1) r) 5 (by simp only [nxtF]; rw [hLF, hFR, show q - 1 + 1 = q by omega]) (by omega) (by omega) (by omega) (Nat.lt_succ_self _)
                  · skip
                    refine j_iinc (pc := 67) hM (n' := 2) [(2, .int (nI (r - 1))), (0, .ref p), (1, .int (nI (q - 1)))] dX3_nextLine_67 rfl (by rw [show Int32.ofInt (-1) = -nI 1 from by decide, ← Int32.sub_eq_add_neg, nsub (by omega)]) (by decide) rfl ?_
                    refine j_goto (pc := 70) hM 47 dX3_nextLine_70 (by decide) ?_
                    refine j_lv (pc := 47) hM [1, 2, 0] rfl ?_
                    exact ih47 (r - 1) ((fr_in (by omega) (by omega)).symm.trans hr) (by omega) (by omega)
            refine j_lv (pc := 47) hM [1, 2, 0] rfl ?_
            exact L47 _ (na - 1) rfl (by omega) (Nat.lt_succ_self _)
          · skip
            exact absurd trivial c35
        · skip
          refine j_iinc (pc := 28) hM (n' := 1) [(1, .int (nI (q - 1) - nI 1)), (0, .ref p)] dX3_nextLine_28 rfl m1_dec (by decide) rfl ?_
          refine j_goto (pc := 31) hM 7 dX3_nextLine_31 (by decide) ?_
          refine j_lv (pc := 7) hM [1, 0] rfl ?_
          exact ih7 (nI (q - 1) - nI 1) (q - 1) rfl ((fl_in (by omega) (by rw [show q - 1 + 1 = q by omega] at c25; exact c25)).symm.trans hq) (by omega) (by omega)
  refine j_lv (pc := 7) hM [1, 0] rfl ?_
  exact L7 _ (nI (na - 2)) (na - 1) (by rw [nsub (by omega), show na - 1 - 1 = na - 2 by omega]) rfl (by omega) (Nat.lt_succ_self _)
set_option maxHeartbeats 4000000 in
set_option maxRecDepth 100000 in
theorem c_X3_tells (l : Launch) (D : va_G) (cy : ClassId) (p : Nat) (eS : Nat) (eL : Nat) (eB : Nat) (bf : Int32) (b1 : Nat) (bg : Nat) (bt : Nat) (na : Nat) (wt : Nat) (bs : Nat → Nat) (hbf : bf = nI b1 - nI 1) (hb0 : 0 < b1) (hb4 : b1 ≤ 4) (hn5 : na ≤ 5) (hwt : wt ≤ 14) : Ct (σ := Unit) l D cy yX3_tells cX3_tells 2 (some .int) { frames := 0, cells := 0, slots := 0, locals := 0 } [.ref p, .int (nI wt)] [(p, .inr (3, [.ref eS, .ref eL, .ref eB, .int (nI na), .int bf, .int (nI bg), .int (nI bt)])), (eB, arC cy 5 bs)] (fun _ => True) (fun _ => some (.int (nI (tellB na wt (b1, bg, bt, bs))))) (fun _ => [(p, .inr (3, [.ref eS, .ref eL, .ref eB, .int (nI na), .int bf, .int (nI bg), .int (nI bt)])), (eB, arC cy 5 bs)]) := by
  refine Ct_ofI (by decide) (lb rfl) [(0, .ref p), (1, .int (nI wt))] rfl (fun G hM hret => ?_)
  refine j_iload_n (pc := 0) hM dX3_tells_0 rfl 1 rfl ?_
  rcases (show wt = 0 ∨ wt = 1 ∨ wt = 2 ∨ (wt < 0 ∨ 2 < wt) by omega) with s1 | s1 | s1 | s1
  · skip
    refine j_tsN (pc := 1) hM 0 28 dX3_tells_1 s1 (by decide) (by decide) (by decide) rfl (by decide) ?_
    refine j_aload_n (pc := 28) hM dX3_tells_28 rfl 0 rfl ?_
    refine j_get (pc := 29) hM fd_X3_29 0 rfl rfl dX3_tells_29 ?_
    have hbf2 : bf = nI (b1 - 1) := by rw [hbf, nsub (by omega)]
    exact hret () _ _ _ _ trivial rfl (show some (Value.int bf) = some (Value.int (nI (tellB na wt (b1, bg, bt, bs)))) from by rw [hbf2]; simp [tellB, s1]) rfl dX3_tells_32
  · skip
    refine j_tsN (pc := 1) hM 1 33 dX3_tells_1 s1 (by decide) (by decide) (by decide) rfl (by decide) ?_
    refine j_aload_n (pc := 33) hM dX3_tells_33 rfl 0 rfl ?_
    refine j_get (pc := 34) hM fd_X3_32 0 rfl rfl dX3_tells_34 ?_
    exact hret () _ _ _ _ trivial rfl (sI (show bg = (tellB na wt (b1, bg, bt, bs)) from by simp [tellB, s1])) rfl dX3_tells_37
  · skip
    refine j_tsN (pc := 1) hM 2 38 dX3_tells_1 s1 (by decide) (by decide) (by decide) rfl (by decide) ?_
    refine j_aload_n (pc := 38) hM dX3_tells_38 rfl 0 rfl ?_
    refine j_get (pc := 39) hM fd_X3_35 0 rfl rfl dX3_tells_39 ?_
    exact hret () _ _ _ _ trivial rfl (sI (show bt = (tellB na wt (b1, bg, bt, bs)) from by simp [tellB, s1])) rfl dX3_tells_42
  · skip
    refine j_tsM (pc := 1) hM 43 dX3_tells_1 (by omega) (by omega) (by decide) ?_
    refine j_iload_n (pc := 43) hM dX3_tells_43 rfl 1 rfl ?_
    refine j_bipush (pc := 44) hM (v := nI 10) dX3_tells_44 (by decide) ?_
    refine j_icmp_lt (pc := 46) hM 72 dX3_tells_46 (by decide) (cLT (by omega) (by omega)) (fun c46 => ?_) (fun c46 => ?_)
    · skip
      refine j_iconst (pc := 72) hM (v := nI 4294967295) dX3_tells_72 (by decide) ?_
      exact hret () _ _ _ _ trivial rfl (sI (show 4294967295 = (tellB na wt (b1, bg, bt, bs)) from by simp only [tellB]; rw [if_neg (by omega), if_neg (by omega), if_neg (by omega)]; first | (rw [if_pos (by omega)]) | (rw [if_neg (by omega)]))) rfl dX3_tells_73
    · skip
      refine j_iload_n (pc := 49) hM dX3_tells_49 rfl 1 rfl ?_
      refine j_bipush (pc := 50) hM (v := nI 10) dX3_tells_50 (by decide) ?_
      refine j_isub (pc := 52) hM (v := nI (wt - 10)) dX3_tells_52 (nsub (by omega)) ?_
      refine j_aload_n (pc := 53) hM dX3_tells_53 rfl 0 rfl ?_
      refine j_get (pc := 54) hM fd_X3_25 0 rfl rfl dX3_tells_54 ?_
      refine j_icmp_ge (pc := 57) hM 72 dX3_tells_57 (by decide) (cLE (by omega) (by omega)) (fun c57 => ?_) (fun c57 => ?_)
      · skip
        refine j_iconst (pc := 72) hM (v := nI 4294967295) dX3_tells_72 (by decide) ?_
        exact hret () _ _ _ _ trivial rfl (sI (show 4294967295 = (tellB na wt (b1, bg, bt, bs)) from by simp only [tellB]; rw [if_neg (by omega), if_neg (by omega), if_neg (by omega)]; first | (rw [if_pos (by omega)]) | (rw [if_neg (by omega)]))) rfl dX3_tells_73
      · skip
        refine j_aload_n (pc := 60) hM dX3_tells_60 rfl 0 rfl ?_
        refine j_get (pc := 61) hM fd_X3_22 0 rfl rfl dX3_tells_61 ?_
        refine j_iload_n (pc := 64) hM dX3_tells_64 rfl 1 rfl ?_
        refine j_bipush (pc := 65) hM (v := nI 10) dX3_tells_65 (by decide) ?_
        refine j_isub (pc := 67) hM (v := nI (wt - 10)) dX3_tells_67 (nsub (by omega)) ?_
        refine j_ldN (pc := 68) hM (v := bs (wt - 10)) 1 rfl (by omega) (by decide) rfl dX3_tells_68 ?_
        refine j_goto (pc := 69) hM 73 dX3_tells_69 (by decide) ?_
        exact hret () _ _ _ _ trivial rfl (sI (show (bs (wt - 10)) = (tellB na wt (b1, bg, bt, bs)) from by simp only [tellB]; rw [if_neg (by omega), if_neg (by omega), if_neg (by omega)]; first | (rw [if_pos (by omega)]) | (rw [if_neg (by omega)]))) rfl dX3_tells_73
set_option maxHeartbeats 4000000 in
set_option maxRecDepth 100000 in
theorem c_X3_find (l : Launch) (D : va_G) (cy : ClassId) (p : Nat) (eS : Nat) (eL : Nat) (eB : Nat) (bf : Int32) (b1 : Nat) (bg : Nat) (bt : Nat) (e : S3) (ln : Nat → Nat) (bs : Nat → Nat) (oa : Nat) (o : Nat) (aH : Nat) (aW : Nat) (aD : Nat) (aK : Nat) (aM : Nat) (aA : Nat) (aT : Nat) (aS : Nat) (ns : Nat) (nb : Nat) (na : Nat) (tm : Nat) (sn : Nat) (h : Nat → Nat) (w : Nat → Nat) (d : Nat → Nat) (k : Nat → Nat) (m : Nat → Nat) (s : S3) (ok : okB ns nb h w d) (okk : okK na k m) (oks : okS s) (hn2 : 2 ≤ na) : Ct (σ := List Nat × S3) l D cy yX3_find cX3_find 4 none { frames := 4, cells := 0, slots := 0, locals := 83 } [.ref p, .ref o] [(p, .inr (3, [.ref eS, .ref eL, .ref eB, .int (nI oa), .int bf, .int (nI bg), .int (nI bt)])), (eS, .inr (6, [.int (nI e.1), .int (nI e.2.1), .int (nI e.2.2)])), (eL, arC cy 5 ln), (eB, arC cy 5 bs), (o, .inr (8, [.ref aH, .ref aW, .ref aD, .ref aK, .ref aM, .ref aA, .ref aT, .ref aS, .int (nI ns), .int (nI nb), .int (nI na), .int (nI tm), .int (nI sn)])), (aH, arC cy 8 h), (aW, arC cy 3 w), (aD, arC cy 3 d), (aK, arC cy 5 k), (aM, arC cy 5 m), (aS, .inr (6, [.int (nI s.1), .int (nI s.2.1), .int (nI s.2.2)]))] (fun u => True) (fun u => none) (fun u => [(p, .inr (3, [.ref eS, .ref eL, .ref eB, .int (nI na), .int (nI (ordB k m h w d na nb s bg bt bs).1 - nI 1), .int (nI ((ordB k m h w d na nb s bg bt bs).2.1)), .int (nI ((ordB k m h w d na nb s bg bt bs).2.2.1))])), (eS, .inr (6, [.int (nI u.2.1), .int (nI u.2.2.1), .int (nI u.2.2.2)])), (eL, arC cy 5 (lf u.1)), (eB, arC cy 5 ((ordB k m h w d na nb s bg bt bs).2.2.2)), (o, .inr (8, [.ref aH, .ref aW, .ref aD, .ref aK, .ref aM, .ref aA, .ref aT, .ref aS, .int (nI ns), .int (nI nb), .int (nI na), .int (nI tm), .int (nI sn)])), (aH, arC cy 8 h), (aW, arC cy 3 w), (aD, arC cy 3 d), (aK, arC cy 5 k), (aM, arC cy 5 m), (aS, .inr (6, [.int (nI s.1), .int (nI s.2.1), .int (nI s.2.2)]))]) := by
  refine Ct_ofV (by decide) (lb rfl) [(0, .ref p), (1, .ref o)] rfl (fun G hM hret => ?_)
  have k1 := okk.1
  have e2 := ok.2.1
  refine j_aload_n (pc := 0) hM dX3_find_0 rfl 0 rfl ?_
  refine j_aload_n (pc := 1) hM dX3_find_1 rfl 1 rfl ?_
  refine j_get (pc := 2) hM fd_X3_38 4 rfl rfl dX3_find_2 ?_
  refine j_put (pc := 5) hM fp_X3_25 [(p, .inr (3, [.ref eS, .ref eL, .ref eB, .int (nI na), .int bf, .int (nI bg), .int (nI bt)])), (eS, .inr (6, [.int (nI e.1), .int (nI e.2.1), .int (nI e.2.2)])), (eL, arC cy 5 ln), (eB, arC cy 5 bs), (o, .inr (8, [.ref aH, .ref aW, .ref aD, .ref aK, .ref aM, .ref aA, .ref aT, .ref aS, .int (nI ns), .int (nI nb), .int (nI na), .int (nI tm), .int (nI sn)])), (aH, arC cy 8 h), (aW, arC cy 3 w), (aD, arC cy 3 d), (aK, arC cy 5 k), (aM, arC cy 5 m), (aS, .inr (6, [.int (nI s.1), .int (nI s.2.1), .int (nI s.2.2)]))] 0 rfl (lb rfl) rfl rfl rfl dX3_find_5 ?_
  refine j_aload_n (pc := 8) hM dX3_find_8 rfl 0 rfl ?_
  refine j_iconst (pc := 9) hM (v := (-1)) dX3_find_9 (by decide) ?_
  refine j_put (pc := 10) hM fp_X3_29 [(p, .inr (3, [.ref eS, .ref eL, .ref eB, .int (nI na), .int (-1), .int (nI bg), .int (nI bt)])), (eS, .inr (6, [.int (nI e.1), .int (nI e.2.1), .int (nI e.2.2)])), (eL, arC cy 5 ln), (eB, arC cy 5 bs), (o, .inr (8, [.ref aH, .ref aW, .ref aD, .ref aK, .ref aM, .ref aA, .ref aT, .ref aS, .int (nI ns), .int (nI nb), .int (nI na), .int (nI tm), .int (nI sn)])), (aH, arC cy 8 h), (aW, arC cy 3 w), (aD, arC cy 3 d), (aK, arC cy 5 k), (aM, arC cy 5 m), (aS, .inr (6, [.int (nI s.1), .int (nI s.2.1), .int (nI s.2.2)]))] 0 rfl (lb rfl) rfl rfl rfl dX3_find_10 ?_
  refine j_iconst (pc := 13) hM (v := nI 0) dX3_find_13 (by decide) ?_
  refine j_istore_n (pc := 14) hM [(2, .int (nI 0)), (0, .ref p), (1, .ref o)] dX3_find_14 rfl (by decide) rfl ?_
  have L15 : ∀ (n15 : Nat) (i : Nat) (F : Nat → Nat), (i ≤ 5) → (∀ j, j < i → F j = j) → (5 - i) < n15 → G [(p, .inr (3, [.ref eS, .ref eL, .ref eB, .int (nI na), .int (-1), .int (nI bg), .int (nI bt)])), (eS, .inr (6, [.int (nI e.1), .int (nI e.2.1), .int (nI e.2.2)])), (eL, arC cy 5 F), (eB, arC cy 5 bs), (o, .inr (8, [.ref aH, .ref aW, .ref aD, .ref aK, .ref aM, .ref aA, .ref aT, .ref aS, .int (nI ns), .int (nI nb), .int (nI na), .int (nI tm), .int (nI sn)])), (aH, arC cy 8 h), (aW, arC cy 3 w), (aD, arC cy 3 d), (aK, arC cy 5 k), (aM, arC cy 5 m), (aS, .inr (6, [.int (nI s.1), .int (nI s.2.1), .int (nI s.2.2)]))] [(0, .ref p), (1, .ref o), (2, .int (nI i))] 15 [] := by
    intro n15
    induction n15 with
    | zero => intro i F hi hF hm15; exact absurd hm15 (Nat.not_lt_zero _)
    | succ n15 ih15 =>
      intro i F hi hF hm15
      refine j_iload_n (pc := 15) hM dX3_find_15 rfl 2 rfl ?_
      refine j_iconst (pc := 16) hM (v := nI 5) dX3_find_16 (by decide) ?_
      refine j_icmp_ge (pc := 17) hM 33 dX3_find_17 (by decide) (cLE (by omega) (by omega)) (fun c17 => ?_) (fun c17 => ?_)
      · skip
        refine j_arN (pc := 33) hM [(p, .inr (3, [.ref eS, .ref eL, .ref eB, .int (nI na), .int (-1), .int (nI bg), .int (nI bt)])), (eS, .inr (6, [.int (nI e.1), .int (nI e.2.1), .int (nI e.2.2)])), (eL, arC cy 5 (lf [0, 1, 2, 3, 4])), (eB, arC cy 5 bs), (o, .inr (8, [.ref aH, .ref aW, .ref aD, .ref aK, .ref aM, .ref aA, .ref aT, .ref aS, .int (nI ns), .int (nI nb), .int (nI na), .int (nI tm), .int (nI sn)])), (aH, arC cy 8 h), (aW, arC cy 3 w), (aD, arC cy 3 d), (aK, arC cy 5 k), (aM, arC cy 5 m), (aS, .inr (6, [.int (nI s.1), .int (nI s.2.1), .int (nI s.2.2)]))] 2 rfl (fun j hj => by rw [hF j (by omega)]; rcases (show j = 0 ∨ j = 1 ∨ j = 2 ∨ j = 3 ∨ j = 4 by omega) with rfl | rfl | rfl | rfl | rfl <;> rfl) rfl ?_
        refine j_iconst (pc := 33) hM (v := nI 1) dX3_find_33 (by decide) ?_
        refine j_istore_n (pc := 34) hM [(2, .int (nI 1)), (0, .ref p), (1, .ref o)] dX3_find_34 rfl (by decide) rfl ?_
        refine j_iconst (pc := 35) hM (v := nI 0) dX3_find_35 (by decide) ?_
        refine j_istore_n (pc := 36) hM [(3, .int (nI 0)), (2, .int (nI 1)), (0, .ref p), (1, .ref o)] dX3_find_36 rfl (by decide) rfl ?_
        have L37 : ∀ (n37 : Nat) (t : Nat) (mo : Nat) (L : List Nat) (bf : Int32) (b1 : Nat) (bg2 : Nat) (bt2 : Nat) (bs2 : Nat → Nat) (e : S3), (t ≤ 120) → (mo ≤ 1) → (∀ q, q < na → lf L q < na) → ((if mo = 1 then ordL (bup k m h w d na nb s) na (120 - t) L (b1, bg2, bt2, bs2) else (b1, bg2, bt2, bs2)) = ordB k m h w d na nb s bg bt bs) → (bf = nI b1 - nI 1) → (b1 ≤ 4) → (0 < b1 → bg2 ≤ 9 ∧ bt2 ≤ 20) → (120 - t) < n37 → G [(p, .inr (3, [.ref eS, .ref eL, .ref eB, .int (nI na), .int bf, .int (nI bg2), .int (nI bt2)])), (eS, .inr (6, [.int (nI e.1), .int (nI e.2.1), .int (nI e.2.2)])), (eL, arC cy 5 (lf L)), (eB, arC cy 5 bs2), (o, .inr (8, [.ref aH, .ref aW, .ref aD, .ref aK, .ref aM, .ref aA, .ref aT, .ref aS, .int (nI ns), .int (nI nb), .int (nI na), .int (nI tm), .int (nI sn)])), (aH, arC cy 8 h), (aW, arC cy 3 w), (aD, arC cy 3 d), (aK, arC cy 5 k), (aM, arC cy 5 m), (aS, .inr (6, [.int (nI s.1), .int (nI s.2.1), .int (nI s.2.2)]))] [(0, .ref p), (1, .ref o), (2, .int (nI mo)), (3, .int (nI t))] 37 [] := by
          intro n37
          induction n37 with
          | zero => intro t mo L bf b1 bg2 bt2 bs2 e ht hmo hL hq hbf hb4 hgt hm37; exact absurd hm37 (Nat.not_lt_zero _)
          | succ n37 ih37 =>
            intro t mo L bf b1 bg2 bt2 bs2 e ht hmo hL hq hbf hb4 hgt hm37
            refine j_iload_n (pc := 37) hM dX3_find_37 rfl 3 rfl ?_
            refine j_bipush (pc := 38) hM (v := nI 120) dX3_find_38 (by decide) ?_
            refine j_icmp_ge (pc := 40) hM 63 dX3_find_40 (by decide) (cLE (by omega) (by omega)) (fun c40 => ?_) (fun c40 => ?_)
            · skip
              have hB : (b1, bg2, bt2, bs2) = ordB k m h w d na nb s bg bt bs := by rw [← hq]; split <;> first | rfl | (rw [show 120 - t = 0 by omega]; rfl) | omega
              exact hret (L, e) _ _ _ trivial (eq8 (fun (z0 : Int32) (z1 : Nat) (z2 : Nat) (z3 : Nat) (z4 : Nat) (z5 : Nat) (z6 : Nat → Nat) (z7 : Nat → Nat) => ([(p, .inr (3, [.ref eS, .ref eL, .ref eB, .int (nI na), .int z0, .int (nI z1), .int (nI z2)])), (eS, .inr (6, [.int (nI z3), .int (nI z4), .int (nI z5)])), (eL, arC cy 5 z6), (eB, arC cy 5 z7), (o, .inr (8, [.ref aH, .ref aW, .ref aD, .ref aK, .ref aM, .ref aA, .ref aT, .ref aS, .int (nI ns), .int (nI nb), .int (nI na), .int (nI tm), .int (nI sn)])), (aH, arC cy 8 h), (aW, arC cy 3 w), (aD, arC cy 3 d), (aK, arC cy 5 k), (aM, arC cy 5 m), (aS, .inr (6, [.int (nI s.1), .int (nI s.2.1), .int (nI s.2.2)]))] : va_W)) (show bf = (nI (ordB k m h w d na nb s bg bt bs).1 - nI 1) from by first | rfl | (rw [← hB]; done) | (rw [← hB]; exact hbf)) (show bg2 = ((ordB k m h w d na nb s bg bt bs).2.1) from by first | rfl | (rw [← hB]; done) | (rw [← hB]; exact hbf)) (show bt2 = ((ordB k m h w d na nb s bg bt bs).2.2.1) from by first | rfl | (rw [← hB]; done) | (rw [← hB]; exact hbf)) (show e.1 = (((L, e).2).1) from by first | rfl | (rw [← hB]; done) | (rw [← hB]; exact hbf)) (show e.2.1 = (((L, e).2).2.1) from by first | rfl | (rw [← hB]; done) | (rw [← hB]; exact hbf)) (show e.2.2 = (((L, e).2).2.2) from by first | rfl | (rw [← hB]; done) | (rw [← hB]; exact hbf)) (show (lf L) = (lf (L, e).1) from by first | rfl | (rw [← hB]; done) | (rw [← hB]; exact hbf)) (show bs2 = ((ordB k m h w d na nb s bg bt bs).2.2.2) from by first | rfl | (rw [← hB]; done) | (rw [← hB]; exact hbf))) rfl dX3_find_63
            · skip
              refine j_iload_n (pc := 43) hM dX3_find_43 rfl 2 rfl ?_
              refine j_if_eq (pc := 44) (P := mo = 0) hM 63 dX3_find_44 (by decide) (i0_eq (by omega)) (fun c44 => ?_) (fun c44 => ?_)
              · skip
                have hB : (b1, bg2, bt2, bs2) = ordB k m h w d na nb s bg bt bs := by rw [← hq]; split <;> first | rfl | (rw [show 120 - t = 0 by omega]; rfl) | omega
                exact hret (L, e) _ _ _ trivial (eq8 (fun (z0 : Int32) (z1 : Nat) (z2 : Nat) (z3 : Nat) (z4 : Nat) (z5 : Nat) (z6 : Nat → Nat) (z7 : Nat → Nat) => ([(p, .inr (3, [.ref eS, .ref eL, .ref eB, .int (nI na), .int z0, .int (nI z1), .int (nI z2)])), (eS, .inr (6, [.int (nI z3), .int (nI z4), .int (nI z5)])), (eL, arC cy 5 z6), (eB, arC cy 5 z7), (o, .inr (8, [.ref aH, .ref aW, .ref aD, .ref aK, .ref aM, .ref aA, .ref aT, .ref aS, .int (nI ns), .int (nI nb), .int (nI na), .int (nI tm), .int (nI sn)])), (aH, arC cy 8 h), (aW, arC cy 3 w), (aD, arC cy 3 d), (aK, arC cy 5 k), (aM, arC cy 5 m), (aS, .inr (6, [.int (nI s.1), .int (nI s.2.1), .int (nI s.2.2)]))] : va_W)) (show bf = (nI (ordB k m h w d na nb s bg bt bs).1 - nI 1) from by first | rfl | (rw [← hB]; done) | (rw [← hB]; exact hbf)) (show bg2 = ((ordB k m h w d na nb s bg bt bs).2.1) from by first | rfl | (rw [← hB]; done) | (rw [← hB]; exact hbf)) (show bt2 = ((ordB k m h w d na nb s bg bt bs).2.2.1) from by first | rfl | (rw [← hB]; done) | (rw [← hB]; exact hbf)) (show e.1 = (((L, e).2).1) from by first | rfl | (rw [← hB]; done) | (rw [← hB]; exact hbf)) (show e.2.1 = (((L, e).2).2.1) from by first | rfl | (rw [← hB]; done) | (rw [← hB]; exact hbf)) (show e.2.2 = (((L, e).2).2.2) from by first | rfl | (rw [← hB]; done) | (rw [← hB]; exact hbf)) (show (lf L) = (lf (L, e).1) from by first | rfl | (rw [← hB]; done) | (rw [← hB]; exact hbf)) (show bs2 = ((ordB k m h w d na nb s bg bt bs).2.2.2) from by first | rfl | (rw [← hB]; done) | (rw [← hB]; exact hbf))) rfl dX3_find_63
              · skip
                refine j_aload_n (pc := 47) hM dX3_find_47 rfl 0 rfl ?_
                refine j_aload_n (pc := 48) hM dX3_find_48 rfl 1 rfl ?_
                refine j_callV (pc := 49) hM cv_X3_41 (As := [.ref o]) (rest := []) (b := p) (c_X3_tryLine l D cy p eS eL eB bf b1 bg2 bt2 e (lf L) bs2 o aH aW aD aK aM aA aT aS ns nb na tm sn h w d k m s hbf (by first | assumption | omega) hgt ok okk oks hL) ⟨lb rfl, lb rfl, lb rfl, lb rfl⟩ rfl 0 rfl rfl [0, 1, 2, 3, 4, 5, 6, 7, 8, 9, 10] [] [0, 1, 2, 3, 4, 5, 6, 7, 8, 9, 10] [] (fun _ => [(p, .inr (3, [.ref eS, .ref eL, .ref eB, .int (nI na), .int (if betr (nfl h w d (lrun k m (lf L) s na).1 nb) (lrun k m (lf L) s na).2.1 (lrun k m (lf L) s na).1 b1 bg2 bt2 then nI (nfl h w d (lrun k m (lf L) s na).1 nb) else bf), .int (nI (if betr (nfl h w d (lrun k m (lf L) s na).1 nb) (lrun k m (lf L) s na).2.1 (lrun k m (lf L) s na).1 b1 bg2 bt2 then (lrun k m (lf L) s na).2.1 else bg2)), .int (nI (if betr (nfl h w d (lrun k m (lf L) s na).1 nb) (lrun k m (lf L) s na).2.1 (lrun k m (lf L) s na).1 b1 bg2 bt2 then (lrun k m (lf L) s na).1 else bt2))])), (eS, .inr (6, [.int (nI ((lrun k m (lf L) s na).1)), .int (nI ((lrun k m (lf L) s na).2.1)), .int (nI ((lrun k m (lf L) s na).2.2))])), (eL, arC cy 5 (lf L)), (eB, arC cy 5 (if betr (nfl h w d (lrun k m (lf L) s na).1 nb) (lrun k m (lf L) s na).2.1 (lrun k m (lf L) s na).1 b1 bg2 bt2 then (lf L) else bs2)), (o, .inr (8, [.ref aH, .ref aW, .ref aD, .ref aK, .ref aM, .ref aA, .ref aT, .ref aS, .int (nI ns), .int (nI nb), .int (nI na), .int (nI tm), .int (nI sn)])), (aH, arC cy 8 h), (aW, arC cy 3 w), (aD, arC cy 3 d), (aK, arC cy 5 k), (aM, arC cy 5 m), (aS, .inr (6, [.int (nI s.1), .int (nI s.2.1), .int (nI s.2.2)]))]) rfl (by decide) rfl (by decide) (by decide) (by decide) (fun _ => rfl) (lb rfl) dX3_find_49 hM.two (fun _ _ => ?_)
                show G [(p, .inr (3, [.ref eS, .ref eL, .ref eB, .int (nI na), .int (if betr (nfl h w d (lrun k m (lf L) s na).1 nb) (lrun k m (lf L) s na).2.1 (lrun k m (lf L) s na).1 b1 bg2 bt2 then nI (nfl h w d (lrun k m (lf L) s na).1 nb) else bf), .int (nI (if betr (nfl h w d (lrun k m (lf L) s na).1 nb) (lrun k m (lf L) s na).2.1 (lrun k m (lf L) s na).1 b1 bg2 bt2 then (lrun k m (lf L) s na).2.1 else bg2)), .int (nI (if betr (nfl h w d (lrun k m (lf L) s na).1 nb) (lrun k m (lf L) s na).2.1 (lrun k m (lf L) s na).1 b1 bg2 bt2 then (lrun k m (lf L) s na).1 else bt2))])), (eS, .inr (6, [.int (nI ((lrun k m (lf L) s na).1)), .int (nI ((lrun k m (lf L) s na).2.1)), .int (nI ((lrun k m (lf L) s na).2.2))])), (eL, arC cy 5 (lf L)), (eB, arC cy 5 (if betr (nfl h w d (lrun k m (lf L) s na).1 nb) (lrun k m (lf L) s na).2.1 (lrun k m (lf L) s na).1 b1 bg2 bt2 then (lf L) else bs2)), (o, .inr (8, [.ref aH, .ref aW, .ref aD, .ref aK, .ref aM, .ref aA, .ref aT, .ref aS, .int (nI ns), .int (nI nb), .int (nI na), .int (nI tm), .int (nI sn)])), (aH, arC cy 8 h), (aW, arC cy 3 w), (aD, arC cy 3 d), (aK, arC cy 5 k), (aM, arC cy 5 m), (aS, .inr (6, [.int (nI s.1), .int (nI s.2.1), .int (nI s.2.2)]))] [(0, .ref p), (1, .ref o), (2, .int (nI mo)), (3, .int (nI t))] 52 []
                refine j_aload_n (pc := 52) hM dX3_find_52 rfl 0 rfl ?_
                refine j_callV (pc := 53) hM cv_X3_45 (As := []) (rest := []) (b := p) (c_X3_nextLine l D cy p eS eL eB na (if betr (nfl h w d (lrun k m (lf L) s na).1 nb) (lrun k m (lf L) s na).2.1 (lrun k m (lf L) s na).1 b1 bg2 bt2 then nI (nfl h w d (lrun k m (lf L) s na).1 nb) else bf) (if betr (nfl h w d (lrun k m (lf L) s na).1 nb) (lrun k m (lf L) s na).2.1 (lrun k m (lf L) s na).1 b1 bg2 bt2 then (lrun k m (lf L) s na).2.1 else bg2) (if betr (nfl h w d (lrun k m (lf L) s na).1 nb) (lrun k m (lf L) s na).2.1 (lrun k m (lf L) s na).1 b1 bg2 bt2 then (lrun k m (lf L) s na).1 else bt2) (lf L) hn2 (by first | assumption | omega) hL) ⟨lb rfl, lb rfl, lb rfl, lb rfl⟩ rfl 0 rfl rfl [0, 2] [1, 3, 4, 5, 6, 7, 8, 9, 10] [9, 0, 10, 1, 2, 3, 4, 5, 6, 7, 8] [(eS, .inr (6, [.int (nI ((lrun k m (lf L) s na).1)), .int (nI ((lrun k m (lf L) s na).2.1)), .int (nI ((lrun k m (lf L) s na).2.2))])), (eB, arC cy 5 (if betr (nfl h w d (lrun k m (lf L) s na).1 nb) (lrun k m (lf L) s na).2.1 (lrun k m (lf L) s na).1 b1 bg2 bt2 then (lf L) else bs2)), (o, .inr (8, [.ref aH, .ref aW, .ref aD, .ref aK, .ref aM, .ref aA, .ref aT, .ref aS, .int (nI ns), .int (nI nb), .int (nI na), .int (nI tm), .int (nI sn)])), (aH, arC cy 8 h), (aW, arC cy 3 w), (aD, arC cy 3 d), (aK, arC cy 5 k), (aM, arC cy 5 m), (aS, .inr (6, [.int (nI s.1), .int (nI s.2.1), .int (nI s.2.2)]))] (fun _ => [(p, .inr (3, [.ref eS, .ref eL, .ref eB, .int (nI na), .int (if betr (nfl h w d (lrun k m (lf L) s na).1 nb) (lrun k m (lf L) s na).2.1 (lrun k m (lf L) s na).1 b1 bg2 bt2 then nI (nfl h w d (lrun k m (lf L) s na).1 nb) else bf), .int (nI (if betr (nfl h w d (lrun k m (lf L) s na).1 nb) (lrun k m (lf L) s na).2.1 (lrun k m (lf L) s na).1 b1 bg2 bt2 then (lrun k m (lf L) s na).2.1 else bg2)), .int (nI (if betr (nfl h w d (lrun k m (lf L) s na).1 nb) (lrun k m (lf L) s na).2.1 (lrun k m (lf L) s na).1 b1 bg2 bt2 then (lrun k m (lf L) s na).1 else bt2))])), (eS, .inr (6, [.int (nI ((lrun k m (lf L) s na).1)), .int (nI ((lrun k m (lf L) s na).2.1)), .int (nI ((lrun k m (lf L) s na).2.2))])), (eL, arC cy 5 (if 0 < fl (lf L) (na - 1) then nxtF na (lf L) else (lf L))), (eB, arC cy 5 (if betr (nfl h w d (lrun k m (lf L) s na).1 nb) (lrun k m (lf L) s na).2.1 (lrun k m (lf L) s na).1 b1 bg2 bt2 then (lf L) else bs2)), (o, .inr (8, [.ref aH, .ref aW, .ref aD, .ref aK, .ref aM, .ref aA, .ref aT, .ref aS, .int (nI ns), .int (nI nb), .int (nI na), .int (nI tm), .int (nI sn)])), (aH, arC cy 8 h), (aW, arC cy 3 w), (aD, arC cy 3 d), (aK, arC cy 5 k), (aM, arC cy 5 m), (aS, .inr (6, [.int (nI s.1), .int (nI s.2.1), .int (nI s.2.2)]))]) rfl (by decide) rfl (by decide) (by decide) (by decide) (fun _ => rfl) (lb rfl) dX3_find_53 hM.two (fun _ _ => ?_)
                show G [(p, .inr (3, [.ref eS, .ref eL, .ref eB, .int (nI na), .int (if betr (nfl h w d (lrun k m (lf L) s na).1 nb) (lrun k m (lf L) s na).2.1 (lrun k m (lf L) s na).1 b1 bg2 bt2 then nI (nfl h w d (lrun k m (lf L) s na).1 nb) else bf), .int (nI (if betr (nfl h w d (lrun k m (lf L) s na).1 nb) (lrun k m (lf L) s na).2.1 (lrun k m (lf L) s na).1 b1 bg2 bt2 then (lrun k m (lf L) s na).2.1 else bg2)), .int (nI (if betr (nfl h w d (lrun k m (lf L) s na).1 nb) (lrun k m (lf L) s na).2.1 (lrun k m (lf L) s na).1 b1 bg2 bt2 then (lrun k m (lf L) s na).1 else bt2))])), (eS, .inr (6, [.int (nI ((lrun k m (lf L) s na).1)), .int (nI ((lrun k m (lf L) s na).2.1)), .int (nI ((lrun k m (lf L) s na).2.2))])), (eL, arC cy 5 (if 0 < fl (lf L) (na - 1) then nxtF na (lf L) else (lf L))), (eB, arC cy 5 (if betr (nfl h w d (lrun k m (lf L) s na).1 nb) (lrun k m (lf L) s na).2.1 (lrun k m (lf L) s na).1 b1 bg2 bt2 then (lf L) else bs2)), (o, .inr (8, [.ref aH, .ref aW, .ref aD, .ref aK, .ref aM, .ref aA, .ref aT, .ref aS, .int (nI ns), .int (nI nb), .int (nI na), .int (nI tm), .int (nI sn)])), (aH, arC cy 8 h), (aW, arC cy 3 w), (aD, arC cy 3 d), (aK, arC cy 5 k), (aM, arC cy 5 m), (aS, .inr (6, [.int (nI s.1), .int (nI s.2.1), .int (nI s.2.2)]))] [(0, .ref p), (1, .ref o), (2, .int (nI mo)), (3, .int (nI t))] 56 [.int (nI (if 0 < fl (lf L) (na - 1) then 1 else 0))]
                refine j_arN (pc := 56) hM [(p, .inr (3, [.ref eS, .ref eL, .ref eB, .int (nI na), .int (if betr (nfl h w d (lrun k m (lf L) s na).1 nb) (lrun k m (lf L) s na).2.1 (lrun k m (lf L) s na).1 b1 bg2 bt2 then nI (nfl h w d (lrun k m (lf L) s na).1 nb) else bf), .int (nI (if betr (nfl h w d (lrun k m (lf L) s na).1 nb) (lrun k m (lf L) s na).2.1 (lrun k m (lf L) s na).1 b1 bg2 bt2 then (lrun k m (lf L) s na).2.1 else bg2)), .int (nI (if betr (nfl h w d (lrun k m (lf L) s na).1 nb) (lrun k m (lf L) s na).2.1 (lrun k m (lf L) s na).1 b1 bg2 bt2 then (lrun k m (lf L) s na).1 else bt2))])), (eS, .inr (6, [.int (nI ((lrun k m (lf L) s na).1)), .int (nI ((lrun k m (lf L) s na).2.1)), .int (nI ((lrun k m (lf L) s na).2.2))])), (eL, arC cy 5 (lf (nxtL na L))), (eB, arC cy 5 (if betr (nfl h w d (lrun k m (lf L) s na).1 nb) (lrun k m (lf L) s na).2.1 (lrun k m (lf L) s na).1 b1 bg2 bt2 then (lf L) else bs2)), (o, .inr (8, [.ref aH, .ref aW, .ref aD, .ref aK, .ref aM, .ref aA, .ref aT, .ref aS, .int (nI ns), .int (nI nb), .int (nI na), .int (nI tm), .int (nI sn)])), (aH, arC cy 8 h), (aW, arC cy 3 w), (aD, arC cy 3 d), (aK, arC cy 5 k), (aM, arC cy 5 m), (aS, .inr (6, [.int (nI s.1), .int (nI s.2.1), .int (nI s.2.2)]))] 2 rfl nxtL_ok rfl ?_
                refine j_istore_n (pc := 56) hM [(2, .int (nI (if 0 < fl (lf L) (na - 1) then 1 else 0))), (0, .ref p), (1, .ref o), (3, .int (nI t))] dX3_find_56 rfl (by decide) rfl ?_
                refine j_iinc (pc := 57) hM (n' := 3) [(3, .int (nI (t + 1))), (2, .int (nI (if 0 < fl (lf L) (na - 1) then 1 else 0))), (0, .ref p), (1, .ref o)] dX3_find_57 rfl (nI_add _ 1) (by decide) rfl ?_
                refine j_goto (pc := 60) hM 37 dX3_find_60 (by decide) ?_
                have hbd := bup_bd (k := k) (m := m) (h := h) (w := w) (d := d) (na := na) (L := L) (B := (b1, bg2, bt2, bs2)) oks e2 ⟨hb4, hgt⟩
                have hup : bup k m h w d na nb s L (b1, bg2, bt2, bs2) = ((bup k m h w d na nb s L (b1, bg2, bt2, bs2)).1, (if betr (nfl h w d (lrun k m (lf L) s na).1 nb) (lrun k m (lf L) s na).2.1 (lrun k m (lf L) s na).1 b1 bg2 bt2 then (lrun k m (lf L) s na).2.1 else bg2), (if betr (nfl h w d (lrun k m (lf L) s na).1 nb) (lrun k m (lf L) s na).2.1 (lrun k m (lf L) s na).1 b1 bg2 bt2 then (lrun k m (lf L) s na).1 else bt2), (if betr (nfl h w d (lrun k m (lf L) s na).1 nb) (lrun k m (lf L) s na).2.1 (lrun k m (lf L) s na).1 b1 bg2 bt2 then lf L else bs2)) := by simp only [bup]; split <;> rfl
                refine j_lv (pc := 37) hM [2, 3, 1, 0] rfl ?_
                exact ih37 (t + 1) (if 0 < fl (lf L) (na - 1) then 1 else 0) (nxtL na L) (if betr (nfl h w d (lrun k m (lf L) s na).1 nb) (lrun k m (lf L) s na).2.1 (lrun k m (lf L) s na).1 b1 bg2 bt2 then nI (nfl h w d (lrun k m (lf L) s na).1 nb) else bf) ((bup k m h w d na nb s L (b1, bg2, bt2, bs2)).1) (if betr (nfl h w d (lrun k m (lf L) s na).1 nb) (lrun k m (lf L) s na).2.1 (lrun k m (lf L) s na).1 b1 bg2 bt2 then (lrun k m (lf L) s na).2.1 else bg2) (if betr (nfl h w d (lrun k m (lf L) s na).1 nb) (lrun k m (lf L) s na).2.1 (lrun k m (lf L) s na).1 b1 bg2 bt2 then (lrun k m (lf L) s na).1 else bt2) (if betr (nfl h w d (lrun k m (lf L) s na).1 nb) (lrun k m (lf L) s na).2.1 (lrun k m (lf L) s na).1 b1 bg2 bt2 then (lf L) else bs2) (lrun k m (lf L) s na) (by omega) ifle1 (nxtL_lt hn2 k1 hL) (by rw [← hq, if_pos (show mo = 1 by omega), show 120 - t = 120 - (t + 1) + 1 by omega]; simp only [ordL]; rw [← hup]; by_cases z : 0 < fl (lf L) (na - 1); simp [z]; simp [z]) (by simp only [bup]; split; exact m1_of _; exact hbf) hbd.1 (fun q => by have z := hbd.2 q; rw [hup] at z; exact z) (by omega)
        refine j_lv (pc := 37) hM [2, 3, 1, 0] rfl ?_
        exact L37 _ 0 1 [0, 1, 2, 3, 4] (-1) 0 bg bt bs e (by omega) (by omega) (fun q hq => by rcases (show q = 0 ∨ q = 1 ∨ q = 2 ∨ q = 3 ∨ q = 4 by omega) with rfl | rfl | rfl | rfl | rfl <;> simp only [lf, List.getD_cons_zero, List.getD_cons_succ] <;> omega) rfl (by decide) (by omega) (fun q => absurd q (Nat.lt_irrefl 0)) (Nat.lt_succ_self _)
      · skip
        refine j_aload_n (pc := 20) hM dX3_find_20 rfl 0 rfl ?_
        refine j_get (pc := 21) hM fd_X3_18 0 rfl rfl dX3_find_21 ?_
        refine j_iload_n (pc := 24) hM dX3_find_24 rfl 2 rfl ?_
        refine j_iload_n (pc := 25) hM dX3_find_25 rfl 2 rfl ?_
        refine j_stN (pc := 26) hM [(p, .inr (3, [.ref eS, .ref eL, .ref eB, .int (nI na), .int (-1), .int (nI bg), .int (nI bt)])), (eS, .inr (6, [.int (nI e.1), .int (nI e.2.1), .int (nI e.2.2)])), (eL, arC cy 5 (va_up F i i)), (eB, arC cy 5 bs), (o, .inr (8, [.ref aH, .ref aW, .ref aD, .ref aK, .ref aM, .ref aA, .ref aT, .ref aS, .int (nI ns), .int (nI nb), .int (nI na), .int (nI tm), .int (nI sn)])), (aH, arC cy 8 h), (aW, arC cy 3 w), (aD, arC cy 3 d), (aK, arC cy 5 k), (aM, arC cy 5 m), (aS, .inr (6, [.int (nI s.1), .int (nI s.2.1), .int (nI s.2.2)]))] 2 rfl (by omega) (by decide) rfl dX3_find_26 ?_
        refine j_iinc (pc := 27) hM (n' := 2) [(2, .int (nI (i + 1))), (0, .ref p), (1, .ref o)] dX3_find_27 rfl (nI_add _ 1) (by decide) rfl ?_
        refine j_goto (pc := 30) hM 15 dX3_find_30 (by decide) ?_
        refine j_lv (pc := 15) hM [1, 2, 0] rfl ?_
        exact ih15 (i + 1) (va_up F i i) (by omega) (fun j hj => by rcases Nat.lt_or_ge j i with z | z; rw [up_ne (by omega)]; exact hF j z; rw [show j = i by omega, up_eq]) (by omega)
  refine j_lv (pc := 15) hM [1, 2, 0] rfl ?_
  exact L15 _ 0 ln (by omega) (fun j hj => absurd hj (Nat.not_lt_zero j)) (Nat.lt_succ_self _)
