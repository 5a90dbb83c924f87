set_option maxHeartbeats 4000000 in
set_option maxRecDepth 100000 in
theorem c_X6_become (l : Launch) (D : va_G) (cy : ClassId) (a0 : Nat) (a1 : Nat) (s0 : S3) (s : S3) (ok : okS s) : Ct (σ := Unit) l D cy yX6_become cX6_become 2 none { frames := 0, cells := 0, slots := 0, locals := 0 } [.ref a0, .ref a1] [(a0, .inr (6, [.int (nI s0.1), .int (nI s0.2.1), .int (nI s0.2.2)])), (a1, .inr (6, [.int (nI s.1), .int (nI s.2.1), .int (nI s.2.2)]))] (fun _ => True) (fun _ => none) (fun _ => [(a0, .inr (6, [.int (nI s.1), .int (nI s.2.1), .int (nI s.2.2)])), (a1, .inr (6, [.int (nI s.1), .int (nI s.2.1), .int (nI s.2.2)]))]) := by
  refine Ct_ofV (by decide) (lb rfl) [(0, .ref a0), (1, .ref a1)] rfl (fun G hM hret => ?_)
  obtain ⟨h1, h2, h3⟩ := ok
  refine j_aload_n (pc := 0) hM dX6_become_0 rfl 0 rfl ?_
  refine j_aload_n (pc := 1) hM dX6_become_1 rfl 1 rfl ?_
  refine j_get (pc := 2) hM fd_X6_9 1 rfl rfl dX6_become_2 ?_
  refine j_put (pc := 5) hM fp_X6_9 [(a0, .inr (6, [.int (nI s.1), .int (nI s0.2.1), .int (nI s0.2.2)])), (a1, .inr (6, [.int (nI s.1), .int (nI s.2.1), .int (nI s.2.2)]))] 0 rfl (lb rfl) rfl rfl rfl dX6_become_5 ?_
  refine j_aload_n (pc := 8) hM dX6_become_8 rfl 0 rfl ?_
  refine j_aload_n (pc := 9) hM dX6_become_9 rfl 1 rfl ?_
  refine j_get (pc := 10) hM fd_X6_15 1 rfl rfl dX6_become_10 ?_
  refine j_put (pc := 13) hM fp_X6_15 [(a0, .inr (6, [.int (nI s.1), .int (nI s.2.1), .int (nI s0.2.2)])), (a1, .inr (6, [.int (nI s.1), .int (nI s.2.1), .int (nI s.2.2)]))] 0 rfl (lb rfl) rfl rfl rfl dX6_become_13 ?_
  refine j_aload_n (pc := 16) hM dX6_become_16 rfl 0 rfl ?_
  refine j_aload_n (pc := 17) hM dX6_become_17 rfl 1 rfl ?_
  refine j_get (pc := 18) hM fd_X6_18 1 rfl rfl dX6_become_18 ?_
  refine j_put (pc := 21) hM fp_X6_18 [(a0, .inr (6, [.int (nI s.1), .int (nI s.2.1), .int (nI s.2.2)])), (a1, .inr (6, [.int (nI s.1), .int (nI s.2.1), .int (nI s.2.2)]))] 0 rfl (lb rfl) (nbool (by omega)) (fbool (by omega)) rfl dX6_become_21 ?_
  exact hret () _ _ _ trivial rfl rfl dX6_become_24
set_option maxHeartbeats 4000000 in
set_option maxRecDepth 100000 in
theorem c_X6_code (l : Launch) (D : va_G) (cy : ClassId) (a0 : Nat) (s : S3) (ok : okS s) : Ct (σ := Unit) l D cy yX6_code cX6_code 1 (some .int) { frames := 0, cells := 0, slots := 0, locals := 0 } [.ref a0] [(a0, .inr (6, [.int (nI s.1), .int (nI s.2.1), .int (nI s.2.2)]))] (fun _ => True) (fun _ => some (.int (nI (codS s)))) (fun _ => [(a0, .inr (6, [.int (nI s.1), .int (nI s.2.1), .int (nI s.2.2)]))]) := by
  refine Ct_ofI (by decide) (lb rfl) [(0, .ref a0)] rfl (fun G hM hret => ?_)
  obtain ⟨h1, h2, h3⟩ := ok
  refine j_aload_n (pc := 0) hM dX6_code_0 rfl 0 rfl ?_
  refine j_get (pc := 1) hM fd_X6_9 0 rfl rfl dX6_code_1 ?_
  refine j_bipush (pc := 4) hM (v := nI 10) dX6_code_4 (by decide) ?_
  refine j_imul (pc := 6) hM (v := nI (s.1 * 10)) dX6_code_6 (nmul _ _) ?_
  refine j_aload_n (pc := 7) hM dX6_code_7 rfl 0 rfl ?_
  refine j_get (pc := 8) hM fd_X6_15 0 rfl rfl dX6_code_8 ?_
  refine j_iadd (pc := 11) hM (v := nI ((s.1 * 10) + s.2.1)) dX6_code_11 (nI_add _ _) ?_
  refine j_iconst (pc := 12) hM (v := nI 2) dX6_code_12 (by decide) ?_
  refine j_imul (pc := 13) hM (v := nI (((s.1 * 10) + s.2.1) * 2)) dX6_code_13 (nmul _ _) ?_
  refine j_aload_n (pc := 14) hM dX6_code_14 rfl 0 rfl ?_
  refine j_get (pc := 15) hM fd_X6_18 0 rfl rfl dX6_code_15 ?_
  refine j_if_eq (pc := 18) hM 25 dX6_code_18 (by decide) (i0_eq (by omega)) (fun c18 => ?_) (fun c18 => ?_)
  · skip
    refine j_iconst (pc := 25) hM (v := nI 0) dX6_code_25 (by decide) ?_
    refine j_iadd (pc := 26) hM (v := nI ((((s.1 * 10) + s.2.1) * 2) + 0)) dX6_code_26 (nI_add _ _) ?_
    exact hret () _ _ _ _ trivial rfl (sI (show ((((s.1 * 10) + s.2.1) * 2) + 0) = (codS s) from by simp only [codS]; omega)) rfl dX6_code_27
  · skip
    refine j_iconst (pc := 21) hM (v := nI 1) dX6_code_21 (by decide) ?_
    refine j_goto (pc := 22) hM 26 dX6_code_22 (by decide) ?_
    refine j_iadd (pc := 26) hM (v := nI ((((s.1 * 10) + s.2.1) * 2) + 1)) dX6_code_26 (nI_add _ _) ?_
    exact hret () _ _ _ _ trivial rfl (sI (show ((((s.1 * 10) + s.2.1) * 2) + 1) = (codS s) from by simp only [codS]; omega)) rfl dX6_code_27
set_option maxHeartbeats 4000000 in
set_option maxRecDepth 100000 in
theorem c_X6_becomeCode (l : Launch) (D : va_G) (cy : ClassId) (a0 : Nat) (c : Nat) (s : S3) (hc : c < 420) : Ct (σ := Unit) l D cy yX6_becomeCode cX6_becomeCode 3 none { frames := 0, cells := 0, slots := 0, locals := 0 } [.ref a0, .int (nI c)] [(a0, .inr (6, [.int (nI s.1), .int (nI s.2.1), .int (nI s.2.2)]))] (fun _ => True) (fun _ => none) (fun _ => [(a0, .inr (6, [.int (nI ((decS c).1)), .int (nI ((decS c).2.1)), .int (nI ((decS c).2.2))]))]) := by
  refine Ct_ofV (by decide) (lb rfl) [(0, .ref a0), (1, .int (nI c))] rfl (fun G hM hret => ?_)
  refine j_iload_n (pc := 0) hM dX6_becomeCode_0 rfl 1 rfl ?_
  refine j_iconst (pc := 1) hM (v := nI 2) dX6_becomeCode_1 (by decide) ?_
  refine j_idiv (pc := 2) hM (v := nI (c / 2)) dX6_becomeCode_2 (nne0 (by omega) (by omega)) (ndiv (by omega) (by omega) (by omega)) ?_
  refine j_istore_n (pc := 3) hM [(2, .int (nI (c / 2))), (0, .ref a0), (1, .int (nI c))] dX6_becomeCode_3 rfl (by decide) rfl ?_
  refine j_aload_n (pc := 4) hM dX6_becomeCode_4 rfl 1 rfl ?_
  refine j_iload_n (pc := 5) hM dX6_becomeCode_5 rfl 0 rfl ?_
  refine j_bipush (pc := 6) hM (v := nI 10) dX6_becomeCode_6 (by decide) ?_
  refine j_idiv (pc := 8) hM (v := nI ((c / 2) / 10)) dX6_becomeCode_8 (nne0 (by omega) (by omega)) (ndiv (by omega) (by omega) (by omega)) ?_
  refine j_put (pc := 9) hM fp_X6_9 [(a0, .inr (6, [.int (nI ((c / 2) / 10)), .int (nI s.2.1), .int (nI s.2.2)]))] 0 rfl (lb rfl) rfl rfl rfl dX6_becomeCode_9 ?_
  refine j_aload_n (pc := 12) hM dX6_becomeCode_12 rfl 1 rfl ?_
  refine j_iload_n (pc := 13) hM dX6_becomeCode_13 rfl 0 rfl ?_
  refine j_bipush (pc := 14) hM (v := nI 10) dX6_becomeCode_14 (by decide) ?_
  refine j_irem (pc := 16) hM (v := nI ((c / 2) % 10)) dX6_becomeCode_16 (nne0 (by omega) (by omega)) (nrem (by omega) (by omega) (by omega)) ?_
  refine j_put (pc := 17) hM fp_X6_15 [(a0, .inr (6, [.int (nI ((c / 2) / 10)), .int (nI ((c / 2) % 10)), .int (nI s.2.2)]))] 0 rfl (lb rfl) rfl rfl rfl dX6_becomeCode_17 ?_
  refine j_aload_n (pc := 20) hM dX6_becomeCode_20 rfl 1 rfl ?_
  refine j_iload_n (pc := 21) hM dX6_becomeCode_21 rfl 2 rfl ?_
  refine j_iconst (pc := 22) hM (v := nI 2) dX6_becomeCode_22 (by decide) ?_
  refine j_irem (pc := 23) hM (v := nI (c % 2)) dX6_becomeCode_23 (nne0 (by omega) (by omega)) (nrem (by omega) (by omega) (by omega)) ?_
  refine j_iconst (pc := 24) hM (v := nI 1) dX6_becomeCode_24 (by decide) ?_
  refine j_icmp_ne (pc := 25) hM 32 dX6_becomeCode_25 (by decide) (cEQ (by omega) (by omega)) (fun c25 => ?_) (fun c25 => ?_)
  · skip
    refine j_iconst (pc := 32) hM (v := nI 0) dX6_becomeCode_32 (by decide) ?_
    refine j_put (pc := 33) hM fp_X6_18 [(a0, .inr (6, [.int (nI ((c / 2) / 10)), .int (nI ((c / 2) % 10)), .int (nI 0)]))] 0 rfl (lb rfl) rfl rfl rfl dX6_becomeCode_33 ?_
    exact hret () _ _ _ trivial (eq3 (fun (z0 : Nat) (z1 : Nat) (z2 : Nat) => ([(a0, .inr (6, [.int (nI z0), .int (nI z1), .int (nI z2)]))] : va_W)) (show ((c / 2) / 10) = ((decS c).1) from by simp only [decS] <;> omega) (show ((c / 2) % 10) = ((decS c).2.1) from by simp only [decS] <;> omega) (show 0 = ((decS c).2.2) from by simp only [decS] <;> omega)) rfl dX6_becomeCode_36
  · skip
    refine j_iconst (pc := 28) hM (v := nI 1) dX6_becomeCode_28 (by decide) ?_
    refine j_goto (pc := 29) hM 33 dX6_becomeCode_29 (by decide) ?_
    refine j_put (pc := 33) hM fp_X6_18 [(a0, .inr (6, [.int (nI ((c / 2) / 10)), .int (nI ((c / 2) % 10)), .int (nI 1)]))] 0 rfl (lb rfl) rfl rfl rfl dX6_becomeCode_33 ?_
    exact hret () _ _ _ trivial (eq3 (fun (z0 : Nat) (z1 : Nat) (z2 : Nat) => ([(a0, .inr (6, [.int (nI z0), .int (nI z1), .int (nI z2)]))] : va_W)) (show ((c / 2) / 10) = ((decS c).1) from by simp only [decS] <;> omega) (show ((c / 2) % 10) = ((decS c).2.1) from by simp only [decS] <;> omega) (show 1 = ((decS c).2.2) from by simp only [decS] <;> omega)) rfl dX6_becomeCode_36
set_option maxHeartbeats 4000000 in
set_option maxRecDepth 100000 in
theorem c_X6_hear (l : Launch) (D : va_G) (cy : ClassId) (a0 : Nat) (k : Nat) (m : Nat) (s : S3) (hk : k ≤ 4) (hm : m ≤ 9) (ok : okS s) : Ct (σ := Unit) l D cy yX6_hear cX6_hear 6 none { frames := 1, cells := 0, slots := 0, locals := 14 } [.ref a0, .int (nI k), .int (nI m)] [(a0, .inr (6, [.int (nI s.1), .int (nI s.2.1), .int (nI s.2.2)]))] (fun _ => True) (fun _ => none) (fun _ => [(a0, .inr (6, [.int (nI ((hear k m s).1)), .int (nI ((hear k m s).2.1)), .int (nI ((hear k m s).2.2))]))]) := by
  refine Ct_ofV (by decide) (lb rfl) [(0, .ref a0), (1, .int (nI k)), (2, .int (nI m))] rfl (fun G hM hret => ?_)
  obtain ⟨h1, h2, h3⟩ := ok
  refine j_iconst (pc := 0) hM (v := nI 0) dX6_hear_0 (by decide) ?_
  refine j_iload_n (pc := 1) hM dX6_hear_1 rfl 2 rfl ?_
  refine j_aload_n (pc := 2) hM dX6_hear_2 rfl 0 rfl ?_
  refine j_get (pc := 3) hM fd_X6_15 0 rfl rfl dX6_hear_3 ?_
  refine j_isub (pc := 6) hM (v := (nI m) - (nI s.2.1)) dX6_hear_6 rfl ?_
  refine j_max (pc := 7) hM (v := nI (m - s.2.1)) ml_X6_22 mw_max ⟨lb rfl, lb rfl, lb rfl, lb rfl⟩ dX6_hear_7 (nmaxS (by omega) (by omega)) ?_
  refine j_istore_n (pc := 10) hM [(3, .int (nI (m - s.2.1))), (0, .ref a0), (1, .int (nI k)), (2, .int (nI m))] dX6_hear_10 rfl (by decide) rfl ?_
  refine j_iconst (pc := 11) hM (v := nI 0) dX6_hear_11 (by decide) ?_
  refine j_istore (pc := 12) hM [(4, .int (nI 0)), (3, .int (nI (m - s.2.1))), (0, .ref a0), (1, .int (nI k)), (2, .int (nI m))] dX6_hear_12 (by decide) rfl ?_
  refine j_iconst (pc := 14) hM (v := nI 0) dX6_hear_14 (by decide) ?_
  refine j_istore (pc := 15) hM [(5, .int (nI 0)), (4, .int (nI 0)), (3, .int (nI (m - s.2.1))), (0, .ref a0), (1, .int (nI k)), (2, .int (nI m))] dX6_hear_15 (by decide) rfl ?_
  refine j_iload_n (pc := 17) hM dX6_hear_17 rfl 4 rfl ?_
  rcases (show k = 1 ∨ k = 2 ∨ k = 3 ∨ k = 4 ∨ (k < 1 ∨ 4 < k) by omega) with s18 | s18 | s18 | s18 | s18
  · skip
    refine j_tsN (pc := 18) hM 1 48 dX6_hear_18 s18 (by decide) (by decide) (by decide) rfl (by decide) ?_
    refine j_iload_n (pc := 48) hM dX6_hear_48 rfl 2 rfl ?_
    refine j_iconst (pc := 49) hM (v := nI 3) dX6_hear_49 (by decide) ?_
    refine j_idiv (pc := 50) hM (v := nI ((m - s.2.1) / 3)) dX6_hear_50 (nne0 (by omega) (by omega)) (ndiv (by omega) (by omega) (by omega)) ?_
    refine j_istore (pc := 51) hM [(4, .int (nI ((m - s.2.1) / 3))), (5, .int (nI 0)), (3, .int (nI (m - s.2.1))), (0, .ref a0), (1, .int (nI k)), (2, .int (nI m))] dX6_hear_51 (by decide) rfl ?_
    refine j_iconst (pc := 53) hM (v := nI 1) dX6_hear_53 (by decide) ?_
    refine j_istore (pc := 54) hM [(5, .int (nI 1)), (4, .int (nI ((m - s.2.1) / 3))), (3, .int (nI (m - s.2.1))), (0, .ref a0), (1, .int (nI k)), (2, .int (nI m))] dX6_hear_54 (by decide) rfl ?_
    refine j_goto (pc := 56) hM 87 dX6_hear_56 (by decide) ?_
    refine j_aload_n (pc := 87) hM dX6_hear_87 rfl 3 rfl ?_
    refine j_bipush (pc := 88) hM (v := nI 20) dX6_hear_88 (by decide) ?_
    refine j_aload_n (pc := 90) hM dX6_hear_90 rfl 3 rfl ?_
    refine j_get (pc := 91) hM fd_X6_9 0 rfl rfl dX6_hear_91 ?_
    refine j_iload (pc := 94) hM dX6_hear_94 1 rfl ?_
    refine j_iadd (pc := 96) hM (v := nI (s.1 + ((m - s.2.1) / 3))) dX6_hear_96 (nI_add _ _) ?_
    refine j_min (pc := 97) hM (v := nI (min 20 (s.1 + ((m - s.2.1) / 3)))) ml_X6_28 mw_min ⟨lb rfl, lb rfl, lb rfl, lb rfl⟩ dX6_hear_97 (nmin (by omega) (by omega) rfl) ?_
    refine j_put (pc := 100) hM fp_X6_9 [(a0, .inr (6, [.int (nI (min 20 (s.1 + ((m - s.2.1) / 3)))), .int (nI s.2.1), .int (nI s.2.2)]))] 0 rfl (lb rfl) rfl rfl rfl dX6_hear_100 ?_
    refine j_aload_n (pc := 103) hM dX6_hear_103 rfl 3 rfl ?_
    refine j_bipush (pc := 104) hM (v := nI 9) dX6_hear_104 (by decide) ?_
    refine j_aload_n (pc := 106) hM dX6_hear_106 rfl 3 rfl ?_
    refine j_get (pc := 107) hM fd_X6_15 0 rfl rfl dX6_hear_107 ?_
    refine j_iload (pc := 110) hM dX6_hear_110 0 rfl ?_
    refine j_iadd (pc := 112) hM (v := nI (s.2.1 + 1)) dX6_hear_112 (nI_add _ _) ?_
    refine j_min (pc := 113) hM (v := nI (min 9 (s.2.1 + 1))) ml_X6_28 mw_min ⟨lb rfl, lb rfl, lb rfl, lb rfl⟩ dX6_hear_113 (nmin (by omega) (by omega) rfl) ?_
    refine j_put (pc := 116) hM fp_X6_15 [(a0, .inr (6, [.int (nI (min 20 (s.1 + ((m - s.2.1) / 3)))), .int (nI (min 9 (s.2.1 + 1))), .int (nI s.2.2)]))] 0 rfl (lb rfl) rfl rfl rfl dX6_hear_116 ?_
    exact hret () _ _ _ trivial (eq3 (fun (z0 : Nat) (z1 : Nat) (z2 : Nat) => ([(a0, .inr (6, [.int (nI z0), .int (nI z1), .int (nI z2)]))] : va_W)) (show (min 20 (s.1 + ((m - s.2.1) / 3))) = ((hear k m s).1) from by simp [hear, rise, offn, s18]) (show (min 9 (s.2.1 + 1)) = ((hear k m s).2.1) from by simp [hear, rise, offn, s18]) (show s.2.2 = ((hear k m s).2.2) from by simp [hear, rise, offn, s18])) rfl dX6_hear_119
  · skip
    refine j_tsN (pc := 18) hM 2 59 dX6_hear_18 s18 (by decide) (by decide) (by decide) rfl (by decide) ?_
    refine j_iconst (pc := 59) hM (v := nI 2) dX6_hear_59 (by decide) ?_
    refine j_iload_n (pc := 60) hM dX6_hear_60 rfl 2 rfl ?_
    refine j_imul (pc := 61) hM (v := nI (2 * (m - s.2.1))) dX6_hear_61 (nmul _ _) ?_
    refine j_istore (pc := 62) hM [(4, .int (nI (2 * (m - s.2.1)))), (5, .int (nI 0)), (3, .int (nI (m - s.2.1))), (0, .ref a0), (1, .int (nI k)), (2, .int (nI m))] dX6_hear_62 (by decide) rfl ?_
    refine j_iconst (pc := 64) hM (v := nI 1) dX6_hear_64 (by decide) ?_
    refine j_istore (pc := 65) hM [(5, .int (nI 1)), (4, .int (nI (2 * (m - s.2.1)))), (3, .int (nI (m - s.2.1))), (0, .ref a0), (1, .int (nI k)), (2, .int (nI m))] dX6_hear_65 (by decide) rfl ?_
    refine j_goto (pc := 67) hM 87 dX6_hear_67 (by decide) ?_
    refine j_aload_n (pc := 87) hM dX6_hear_87 rfl 3 rfl ?_
    refine j_bipush (pc := 88) hM (v := nI 20) dX6_hear_88 (by decide) ?_
    refine j_aload_n (pc := 90) hM dX6_hear_90 rfl 3 rfl ?_
    refine j_get (pc := 91) hM fd_X6_9 0 rfl rfl dX6_hear_91 ?_
    refine j_iload (pc := 94) hM dX6_hear_94 1 rfl ?_
    refine j_iadd (pc := 96) hM (v := nI (s.1 + (2 * (m - s.2.1)))) dX6_hear_96 (nI_add _ _) ?_
    refine j_min (pc := 97) hM (v := nI (min 20 (s.1 + (2 * (m - s.2.1))))) ml_X6_28 mw_min ⟨lb rfl, lb rfl, lb rfl, lb rfl⟩ dX6_hear_97 (nmin (by omega) (by omega) rfl) ?_
    refine j_put (pc := 100) hM fp_X6_9 [(a0, .inr (6, [.int (nI (min 20 (s.1 + (2 * (m - s.2.1))))), .int (nI s.2.1), .int (nI s.2.2)]))] 0 rfl (lb rfl) rfl rfl rfl dX6_hear_100 ?_
    refine j_aload_n (pc := 103) hM dX6_hear_103 rfl 3 rfl ?_
    refine j_bipush (pc := 104) hM (v := nI 9) dX6_hear_104 (by decide) ?_
    refine j_aload_n (pc := 106) hM dX6_hear_106 rfl 3 rfl ?_
    refine j_get (pc := 107) hM fd_X6_15 0 rfl rfl dX6_hear_107 ?_
    refine j_iload (pc := 110) hM dX6_hear_110 0 rfl ?_
    refine j_iadd (pc := 112) hM (v := nI (s.2.1 + 1)) dX6_hear_112 (nI_add _ _) ?_
    refine j_min (pc := 113) hM (v := nI (min 9 (s.2.1 + 1))) ml_X6_28 mw_min ⟨lb rfl, lb rfl, lb rfl, lb rfl⟩ dX6_hear_113 (nmin (by omega) (by omega) rfl) ?_
    refine j_put (pc := 116) hM fp_X6_15 [(a0, .inr (6, [.int (nI (min 20 (s.1 + (2 * (m - s.2.1))))), .int (nI (min 9 (s.2.1 + 1))), .int (nI s.2.2)]))] 0 rfl (lb rfl) rfl rfl rfl dX6_hear_116 ?_
    exact hret () _ _ _ trivial (eq3 (fun (z0 : Nat) (z1 : Nat) (z2 : Nat) => ([(a0, .inr (6, [.int (nI z0), .int (nI z1), .int (nI z2)]))] : va_W)) (show (min 20 (s.1 + (2 * (m - s.2.1)))) = ((hear k m s).1) from by simp [hear, rise, offn, s18]) (show (min 9 (s.2.1 + 1)) = ((hear k m s).2.1) from by simp [hear, rise, offn, s18]) (show s.2.2 = ((hear k m s).2.2) from by simp [hear, rise, offn, s18])) rfl dX6_hear_119
  · skip
    refine j_tsN (pc := 18) hM 3 70 dX6_hear_18 s18 (by decide) (by decide) (by decide) rfl (by decide) ?_
    refine j_aload_n (pc := 70) hM dX6_hear_70 rfl 3 rfl ?_
    refine j_iconst (pc := 71) hM (v := nI 1) dX6_hear_71 (by decide) ?_
    refine j_put (pc := 72) hM fp_X6_18 [(a0, .inr (6, [.int (nI s.1), .int (nI s.2.1), .int (nI 1)]))] 0 rfl (lb rfl) rfl rfl rfl dX6_hear_72 ?_
    refine j_goto (pc := 75) hM 87 dX6_hear_75 (by decide) ?_
    refine j_aload_n (pc := 87) hM dX6_hear_87 rfl 3 rfl ?_
    refine j_bipush (pc := 88) hM (v := nI 20) dX6_hear_88 (by decide) ?_
    refine j_aload_n (pc := 90) hM dX6_hear_90 rfl 3 rfl ?_
    refine j_get (pc := 91) hM fd_X6_9 0 rfl rfl dX6_hear_91 ?_
    refine j_iload (pc := 94) hM dX6_hear_94 1 rfl ?_
    refine j_iadd (pc := 96) hM (v := nI (s.1 + 0)) dX6_hear_96 (nI_add _ _) ?_
    refine j_min (pc := 97) hM (v := nI (min 20 (s.1 + 0))) ml_X6_28 mw_min ⟨lb rfl, lb rfl, lb rfl, lb rfl⟩ dX6_hear_97 (nmin (by omega) (by omega) rfl) ?_
    refine j_put (pc := 100) hM fp_X6_9 [(a0, .inr (6, [.int (nI (min 20 (s.1 + 0))), .int (nI s.2.1), .int (nI 1)]))] 0 rfl (lb rfl) rfl rfl rfl dX6_hear_100 ?_
    refine j_aload_n (pc := 103) hM dX6_hear_103 rfl 3 rfl ?_
    refine j_bipush (pc := 104) hM (v := nI 9) dX6_hear_104 (by decide) ?_
    refine j_aload_n (pc := 106) hM dX6_hear_106 rfl 3 rfl ?_
    refine j_get (pc := 107) hM fd_X6_15 0 rfl rfl dX6_hear_107 ?_
    refine j_iload (pc := 110) hM dX6_hear_110 0 rfl ?_
    refine j_iadd (pc := 112) hM (v := nI (s.2.1 + 0)) dX6_hear_112 (nI_add _ _) ?_
    refine j_min (pc := 113) hM (v := nI (min 9 (s.2.1 + 0))) ml_X6_28 mw_min ⟨lb rfl, lb rfl, lb rfl, lb rfl⟩ dX6_hear_113 (nmin (by omega) (by omega) rfl) ?_
    refine j_put (pc := 116) hM fp_X6_15 [(a0, .inr (6, [.int (nI (min 20 (s.1 + 0))), .int (nI (min 9 (s.2.1 + 0))), .int (nI 1)]))] 0 rfl (lb rfl) rfl rfl rfl dX6_hear_116 ?_
    exact hret () _ _ _ trivial (eq3 (fun (z0 : Nat) (z1 : Nat) (z2 : Nat) => ([(a0, .inr (6, [.int (nI z0), .int (nI z1), .int (nI z2)]))] : va_W)) (show (min 20 (s.1 + 0)) = ((hear k m s).1) from by simp [hear, rise, offn, s18]) (show (min 9 (s.2.1 + 0)) = ((hear k m s).2.1) from by simp [hear, rise, offn, s18]) (show 1 = ((hear k m s).2.2) from by simp [hear, rise, offn, s18])) rfl dX6_hear_119
  · skip
    refine j_tsN (pc := 18) hM 4 78 dX6_hear_18 s18 (by decide) (by decide) (by decide) rfl (by decide) ?_
    refine j_iconst (pc := 78) hM (v := nI 2) dX6_hear_78 (by decide) ?_
    refine j_istore (pc := 79) hM [(5, .int (nI 2)), (4, .int (nI 0)), (3, .int (nI (m - s.2.1))), (0, .ref a0), (1, .int (nI k)), (2, .int (nI m))] dX6_hear_79 (by decide) rfl ?_
    refine j_goto (pc := 81) hM 87 dX6_hear_81 (by decide) ?_
    refine j_aload_n (pc := 87) hM dX6_hear_87 rfl 3 rfl ?_
    refine j_bipush (pc := 88) hM (v := nI 20) dX6_hear_88 (by decide) ?_
    refine j_aload_n (pc := 90) hM dX6_hear_90 rfl 3 rfl ?_
    refine j_get (pc := 91) hM fd_X6_9 0 rfl rfl dX6_hear_91 ?_
    refine j_iload (pc := 94) hM dX6_hear_94 1 rfl ?_
    refine j_iadd (pc := 96) hM (v := nI (s.1 + 0)) dX6_hear_96 (nI_add _ _) ?_
    refine j_min (pc := 97) hM (v := nI (min 20 (s.1 + 0))) ml_X6_28 mw_min ⟨lb rfl, lb rfl, lb rfl, lb rfl⟩ dX6_hear_97 (nmin (by omega) (by omega) rfl) ?_
    refine j_put (pc := 100) hM fp_X6_9 [(a0, .inr (6, [.int (nI (min 20 (s.1 + 0))), .int (nI s.2.1), .int (nI s.2.2)]))] 0 rfl (lb rfl) rfl rfl rfl dX6_hear_100 ?_
    refine j_aload_n (pc := 103) hM dX6_hear_103 rfl 3 rfl ?_
    refine j_bipush (pc := 104) hM (v := nI 9) dX6_hear_104 (by decide) ?_
    refine j_aload_n (pc := 106) hM dX6_hear_106 rfl 3 rfl ?_
    refine j_get (pc := 107) hM fd_X6_15 0 rfl rfl dX6_hear_107 ?_
    refine j_iload (pc := 110) hM dX6_hear_110 0 rfl ?_
    refine j_iadd (pc := 112) hM (v := nI (s.2.1 + 2)) dX6_hear_112 (nI_add _ _) ?_
    refine j_min (pc := 113) hM (v := nI (min 9 (s.2.1 + 2))) ml_X6_28 mw_min ⟨lb rfl, lb rfl, lb rfl, lb rfl⟩ dX6_hear_113 (nmin (by omega) (by omega) rfl) ?_
    refine j_put (pc := 116) hM fp_X6_15 [(a0, .inr (6, [.int (nI (min 20 (s.1 + 0))), .int (nI (min 9 (s.2.1 + 2))), .int (nI s.2.2)]))] 0 rfl (lb rfl) rfl rfl rfl dX6_hear_116 ?_
    exact hret () _ _ _ trivial (eq3 (fun (z0 : Nat) (z1 : Nat) (z2 : Nat) => ([(a0, .inr (6, [.int (nI z0), .int (nI z1), .int (nI z2)]))] : va_W)) (show (min 20 (s.1 + 0)) = ((hear k m s).1) from by simp [hear, rise, offn, s18]) (show (min 9 (s.2.1 + 2)) = ((hear k m s).2.1) from by simp [hear, rise, offn, s18]) (show s.2.2 = ((hear k m s).2.2) from by simp [hear, rise, offn, s18])) rfl dX6_hear_119
  · skip
    refine j_tsM (pc := 18) hM 84 dX6_hear_18 (by omega) (by omega) (by decide) ?_
    have s18 : k = 0 := by omega
    refine j_iload_n (pc := 84) hM dX6_hear_84 rfl 2 rfl ?_
    refine j_istore (pc := 85) hM [(4, .int (nI (m - s.2.1))), (5, .int (nI 0)), (3, .int (nI (m - s.2.1))), (0, .ref a0), (1, .int (nI k)), (2, .int (nI m))] dX6_hear_85 (by decide) rfl ?_
    refine j_aload_n (pc := 87) hM dX6_hear_87 rfl 3 rfl ?_
    refine j_bipush (pc := 88) hM (v := nI 20) dX6_hear_88 (by decide) ?_
    refine j_aload_n (pc := 90) hM dX6_hear_90 rfl 3 rfl ?_
    refine j_get (pc := 91) hM fd_X6_9 0 rfl rfl dX6_hear_91 ?_
    refine j_iload (pc := 94) hM dX6_hear_94 0 rfl ?_
    refine j_iadd (pc := 96) hM (v := nI (s.1 + (m - s.2.1))) dX6_hear_96 (nI_add _ _) ?_
    refine j_min (pc := 97) hM (v := nI (min 20 (s.1 + (m - s.2.1)))) ml_X6_28 mw_min ⟨lb rfl, lb rfl, lb rfl, lb rfl⟩ dX6_hear_97 (nmin (by omega) (by omega) rfl) ?_
    refine j_put (pc := 100) hM fp_X6_9 [(a0, .inr (6, [.int (nI (min 20 (s.1 + (m - s.2.1)))), .int (nI s.2.1), .int (nI s.2.2)]))] 0 rfl (lb rfl) rfl rfl rfl dX6_hear_100 ?_
    refine j_aload_n (pc := 103) hM dX6_hear_103 rfl 3 rfl ?_
    refine j_bipush (pc := 104) hM (v := nI 9) dX6_hear_104 (by decide) ?_
    refine j_aload_n (pc := 106) hM dX6_hear_106 rfl 3 rfl ?_
    refine j_get (pc := 107) hM fd_X6_15 0 rfl rfl dX6_hear_107 ?_
    refine j_iload (pc := 110) hM dX6_hear_110 1 rfl ?_
    refine j_iadd (pc := 112) hM (v := nI (s.2.1 + 0)) dX6_hear_112 (nI_add _ _) ?_
    refine j_min (pc := 113) hM (v := nI (min 9 (s.2.1 + 0))) ml_X6_28 mw_min ⟨lb rfl, lb rfl, lb rfl, lb rfl⟩ dX6_hear_113 (nmin (by omega) (by omega) rfl) ?_
    refine j_put (pc := 116) hM fp_X6_15 [(a0, .inr (6, [.int (nI (min 20 (s.1 + (m - s.2.1)))), .int (nI (min 9 (s.2.1 + 0))), .int (nI s.2.2)]))] 0 rfl (lb rfl) rfl rfl rfl dX6_hear_116 ?_
    exact hret () _ _ _ trivial (eq3 (fun (z0 : Nat) (z1 : Nat) (z2 : Nat) => ([(a0, .inr (6, [.int (nI z0), .int (nI z1), .int (nI z2)]))] : va_W)) (show (min 20 (s.1 + (m - s.2.1))) = ((hear k m s).1) from by simp [hear, rise, offn, s18]) (show (min 9 (s.2.1 + 0)) = ((hear k m s).2.1) from by simp [hear, rise, offn, s18]) (show s.2.2 = ((hear k m s).2.2) from by simp [hear, rise, offn, s18])) rfl dX6_hear_119
set_option maxHeartbeats 4000000 in
set_option maxRecDepth 100000 in
theorem c_X6_hearThanks (l : Launch) (D : va_G) (cy : ClassId) (a0 : Nat) (s : S3) (ok : okS s) : Ct (σ := Unit) l D cy yX6_hearThanks cX6_hearThanks 1 none { frames := 1, cells := 0, slots := 0, locals := 14 } [.ref a0] [(a0, .inr (6, [.int (nI s.1), .int (nI s.2.1), .int (nI s.2.2)]))] (fun _ => True) (fun _ => none) (fun _ => [(a0, .inr (6, [.int (nI ((thk s).1)), .int (nI ((thk s).2.1)), .int (nI ((thk s).2.2))]))]) := by
  refine Ct_ofV (by decide) (lb rfl) [(0, .ref a0)] rfl (fun G hM hret => ?_)
  obtain ⟨h1, h2, h3⟩ := ok
  refine j_aload_n (pc := 0) hM dX6_hearThanks_0 rfl 0 rfl ?_
  refine j_get (pc := 1) hM fd_X6_18 0 rfl rfl dX6_hearThanks_1 ?_
  refine j_if_ne (pc := 4) hM 21 dX6_hearThanks_4 (by decide) (i0_eq (by omega)) (fun c4 => ?_) (fun c4 => ?_)
  · skip
    refine j_aload_n (pc := 21) hM dX6_hearThanks_21 rfl 0 rfl ?_
    refine j_iconst (pc := 22) hM (v := nI 0) dX6_hearThanks_22 (by decide) ?_
    refine j_put (pc := 23) hM fp_X6_18 [(a0, .inr (6, [.int (nI s.1), .int (nI s.2.1), .int (nI 0)]))] 0 rfl (lb rfl) rfl rfl rfl dX6_hearThanks_23 ?_
    refine j_aload_n (pc := 26) hM dX6_hearThanks_26 rfl 0 rfl ?_
    refine j_iconst (pc := 27) hM (v := nI 0) dX6_hearThanks_27 (by decide) ?_
    refine j_aload_n (pc := 28) hM dX6_hearThanks_28 rfl 0 rfl ?_
    refine j_get (pc := 29) hM fd_X6_15 0 rfl rfl dX6_hearThanks_29 ?_
    refine j_iconst (pc := 32) hM (v := nI 1) dX6_hearThanks_32 (by decide) ?_
    refine j_isub (pc := 33) hM (v := (nI s.2.1) - (nI 1)) dX6_hearThanks_33 rfl ?_
    refine j_max (pc := 34) hM (v := nI (s.2.1 - 1)) ml_X6_22 mw_max ⟨lb rfl, lb rfl, lb rfl, lb rfl⟩ dX6_hearThanks_34 (nmaxS (by omega) (by omega)) ?_
    refine j_put (pc := 37) hM fp_X6_15 [(a0, .inr (6, [.int (nI s.1), .int (nI (s.2.1 - 1)), .int (nI 0)]))] 0 rfl (lb rfl) rfl rfl rfl dX6_hearThanks_37 ?_
    exact hret () _ _ _ trivial (eq3 (fun (z0 : Nat) (z1 : Nat) (z2 : Nat) => ([(a0, .inr (6, [.int (nI z0), .int (nI z1), .int (nI z2)]))] : va_W)) (show s.1 = ((thk s).1) from by simp [thk, c4]) (show (s.2.1 - 1) = ((thk s).2.1) from by simp [thk, c4]) (show 0 = ((thk s).2.2) from by simp [thk, c4])) rfl dX6_hearThanks_40
  · skip
    refine j_aload_n (pc := 7) hM dX6_hearThanks_7 rfl 0 rfl ?_
    refine j_iconst (pc := 8) hM (v := nI 0) dX6_hearThanks_8 (by decide) ?_
    refine j_aload_n (pc := 9) hM dX6_hearThanks_9 rfl 0 rfl ?_
    refine j_get (pc := 10) hM fd_X6_9 0 rfl rfl dX6_hearThanks_10 ?_
    refine j_iconst (pc := 13) hM (v := nI 3) dX6_hearThanks_13 (by decide) ?_
    refine j_isub (pc := 14) hM (v := (nI s.1) - (nI 3)) dX6_hearThanks_14 rfl ?_
    refine j_max (pc := 15) hM (v := nI (s.1 - 3)) ml_X6_22 mw_max ⟨lb rfl, lb rfl, lb rfl, lb rfl⟩ dX6_hearThanks_15 (nmaxS (by omega) (by omega)) ?_
    refine j_put (pc := 18) hM fp_X6_9 [(a0, .inr (6, [.int (nI (s.1 - 3)), .int (nI s.2.1), .int (nI s.2.2)]))] 0 rfl (lb rfl) rfl rfl rfl dX6_hearThanks_18 ?_
    refine j_aload_n (pc := 21) hM dX6_hearThanks_21 rfl 0 rfl ?_
    refine j_iconst (pc := 22) hM (v := nI 0) dX6_hearThanks_22 (by decide) ?_
    refine j_put (pc := 23) hM fp_X6_18 [(a0, .inr (6, [.int (nI (s.1 - 3)), .int (nI s.2.1), .int (nI 0)]))] 0 rfl (lb rfl) rfl rfl rfl dX6_hearThanks_23 ?_
    refine j_aload_n (pc := 26) hM dX6_hearThanks_26 rfl 0 rfl ?_
    refine j_iconst (pc := 27) hM (v := nI 0) dX6_hearThanks_27 (by decide) ?_
    refine j_aload_n (pc := 28) hM dX6_hearThanks_28 rfl 0 rfl ?_
    refine j_get (pc := 29) hM fd_X6_15 0 rfl rfl dX6_hearThanks_29 ?_
    refine j_iconst (pc := 32) hM (v := nI 1) dX6_hearThanks_32 (by decide) ?_
    refine j_isub (pc := 33) hM (v := (nI s.2.1) - (nI 1)) dX6_hearThanks_33 rfl ?_
    refine j_max (pc := 34) hM (v := nI (s.2.1 - 1)) ml_X6_22 mw_max ⟨lb rfl, lb rfl, lb rfl, lb rfl⟩ dX6_hearThanks_34 (nmaxS (by omega) (by omega)) ?_
    refine j_put (pc := 37) hM fp_X6_15 [(a0, .inr (6, [.int (nI (s.1 - 3)), .int (nI (s.2.1 - 1)), .int (nI 0)]))] 0 rfl (lb rfl) rfl rfl rfl dX6_hearThanks_37 ?_
    exact hret () _ _ _ trivial (eq3 (fun (z0 : Nat) (z1 : Nat) (z2 : Nat) => ([(a0, .inr (6, [.int (nI z0), .int (nI z1), .int (nI z2)]))] : va_W)) (show (s.1 - 3) = ((thk s).1) from by simp [thk, c4]) (show (s.2.1 - 1) = ((thk s).2.1) from by simp [thk, c4]) (show 0 = ((thk s).2.2) from by simp [thk, c4])) rfl dX6_hearThanks_40
set_option maxHeartbeats 4000000 in
set_option maxRecDepth 100000 in
theorem c_X6_timesToMakeGood (l : Launch) (D : va_G) (cy : ClassId) (a0 : Nat) (s : S3) (ok : okS s) : Ct (σ := Unit) l D cy yX6_timesToMakeGood cX6_timesToMakeGood 4 (some .int) { frames := 1, cells := 0, slots := 0, locals := 13 } [.ref a0] [(a0, .inr (6, [.int (nI s.1), .int (nI s.2.1), .int (nI s.2.2)]))] (fun _ => True) (fun _ => some (.int (nI (goodN s)))) (fun _ => [(a0, .inr (6, [.int (nI s.1), .int (nI s.2.1), .int (nI s.2.2)]))]) := by
  refine Ct_ofI (by decide) (lb rfl) [(0, .ref a0)] rfl (fun G hM hret => ?_)
  obtain ⟨h1, h2, h3⟩ := ok
  refine j_aload_n (pc := 0) hM dX6_timesToMakeGood_0 rfl 0 rfl ?_
  refine j_get (pc := 1) hM fd_X6_18 0 rfl rfl dX6_timesToMakeGood_1 ?_
  refine j_if_eq (pc := 4) hM 20 dX6_timesToMakeGood_4 (by decide) (i0_eq (by omega)) (fun c4 => ?_) (fun c4 => ?_)
  · skip
    refine j_aload_n (pc := 20) hM dX6_timesToMakeGood_20 rfl 0 rfl ?_
    refine j_get (pc := 21) hM fd_X6_15 0 rfl rfl dX6_timesToMakeGood_21 ?_
    refine j_istore_n (pc := 24) hM [(1, .int (nI s.2.1)), (0, .ref a0)] dX6_timesToMakeGood_24 rfl (by decide) rfl ?_
    refine j_aload_n (pc := 25) hM dX6_timesToMakeGood_25 rfl 1 rfl ?_
    refine j_get (pc := 26) hM fd_X6_9 0 rfl rfl dX6_timesToMakeGood_26 ?_
    refine j_iload_n (pc := 29) hM dX6_timesToMakeGood_29 rfl 0 rfl ?_
    refine j_iconst (pc := 30) hM (v := nI 3) dX6_timesToMakeGood_30 (by decide) ?_
    refine j_imul (pc := 31) hM (v := nI (s.2.1 * 3)) dX6_timesToMakeGood_31 (nmul _ _) ?_
    refine j_min (pc := 32) hM (v := nI (min s.1 (s.2.1 * 3))) ml_X6_28 mw_min ⟨lb rfl, lb rfl, lb rfl, lb rfl⟩ dX6_timesToMakeGood_32 (nmin (by omega) (by omega) rfl) ?_
    refine j_istore_n (pc := 35) hM [(2, .int (nI (min s.1 (s.2.1 * 3)))), (1, .int (nI s.2.1)), (0, .ref a0)] dX6_timesToMakeGood_35 rfl (by decide) rfl ?_
    refine j_iload_n (pc := 36) hM dX6_timesToMakeGood_36 rfl 0 rfl ?_
    refine j_bipush (pc := 37) hM (v := nI 9) dX6_timesToMakeGood_37 (by decide) ?_
    refine j_iadd (pc := 39) hM (v := nI ((min s.1 (s.2.1 * 3)) + 9)) dX6_timesToMakeGood_39 (nI_add _ _) ?_
    refine j_iconst (pc := 40) hM (v := nI 1) dX6_timesToMakeGood_40 (by decide) ?_
    refine j_isub (pc := 41) hM (v := nI (((min s.1 (s.2.1 * 3)) + 9) - 1)) dX6_timesToMakeGood_41 (nsub (by omega)) ?_
    refine j_bipush (pc := 42) hM (v := nI 9) dX6_timesToMakeGood_42 (by decide) ?_
    refine j_idiv (pc := 44) hM (v := nI ((((min s.1 (s.2.1 * 3)) + 9) - 1) / 9)) dX6_timesToMakeGood_44 (nne0 (by omega) (by omega)) (ndiv (by omega) (by omega) (by omega)) ?_
    refine j_istore_n (pc := 45) hM [(3, .int (nI ((((min s.1 (s.2.1 * 3)) + 9) - 1) / 9))), (2, .int (nI (min s.1 (s.2.1 * 3)))), (1, .int (nI s.2.1)), (0, .ref a0)] dX6_timesToMakeGood_45 rfl (by decide) rfl ?_
    refine j_aload_n (pc := 46) hM dX6_timesToMakeGood_46 rfl 3 rfl ?_
    refine j_get (pc := 47) hM fd_X6_15 0 rfl rfl dX6_timesToMakeGood_47 ?_
    refine j_iload_n (pc := 50) hM dX6_timesToMakeGood_50 rfl 0 rfl ?_
    refine j_iadd (pc := 51) hM (v := nI (s.2.1 + ((((min s.1 (s.2.1 * 3)) + 9) - 1) / 9))) dX6_timesToMakeGood_51 (nI_add _ _) ?_
    exact hret () _ _ _ _ trivial rfl (sI (show (s.2.1 + ((((min s.1 (s.2.1 * 3)) + 9) - 1) / 9)) = (goodN s) from by simp [goodN, c4])) rfl dX6_timesToMakeGood_52
  · skip
    refine j_iconst (pc := 7) hM (v := nI 0) dX6_timesToMakeGood_7 (by decide) ?_
    refine j_aload_n (pc := 8) hM dX6_timesToMakeGood_8 rfl 0 rfl ?_
    refine j_get (pc := 9) hM fd_X6_15 0 rfl rfl dX6_timesToMakeGood_9 ?_
    refine j_iconst (pc := 12) hM (v := nI 1) dX6_timesToMakeGood_12 (by decide) ?_
    refine j_isub (pc := 13) hM (v := (nI s.2.1) - (nI 1)) dX6_timesToMakeGood_13 rfl ?_
    refine j_max (pc := 14) hM (v := nI (s.2.1 - 1)) ml_X6_22 mw_max ⟨lb rfl, lb rfl, lb rfl, lb rfl⟩ dX6_timesToMakeGood_14 (nmaxS (by omega) (by omega)) ?_
    refine j_goto (pc := 17) hM 24 dX6_timesToMakeGood_17 (by decide) ?_
    refine j_istore_n (pc := 24) hM [(1, .int (nI (s.2.1 - 1))), (0, .ref a0)] dX6_timesToMakeGood_24 rfl (by decide) rfl ?_
    refine j_aload_n (pc := 25) hM dX6_timesToMakeGood_25 rfl 1 rfl ?_
    refine j_get (pc := 26) hM fd_X6_9 0 rfl rfl dX6_timesToMakeGood_26 ?_
    refine j_iload_n (pc := 29) hM dX6_timesToMakeGood_29 rfl 0 rfl ?_
    refine j_iconst (pc := 30) hM (v := nI 3) dX6_timesToMakeGood_30 (by decide) ?_
    refine j_imul (pc := 31) hM (v := nI ((s.2.1 - 1) * 3)) dX6_timesToMakeGood_31 (nmul _ _) ?_
    refine j_min (pc := 32) hM (v := nI (min s.1 ((s.2.1 - 1) * 3))) ml_X6_28 mw_min ⟨lb rfl, lb rfl, lb rfl, lb rfl⟩ dX6_timesToMakeGood_32 (nmin (by omega) (by omega) rfl) ?_
    refine j_istore_n (pc := 35) hM [(2, .int (nI (min s.1 ((s.2.1 - 1) * 3)))), (1, .int (nI (s.2.1 - 1))), (0, .ref a0)] dX6_timesToMakeGood_35 rfl (by decide) rfl ?_
    refine j_iload_n (pc := 36) hM dX6_timesToMakeGood_36 rfl 0 rfl ?_
    refine j_bipush (pc := 37) hM (v := nI 9) dX6_timesToMakeGood_37 (by decide) ?_
    refine j_iadd (pc := 39) hM (v := nI ((min s.1 ((s.2.1 - 1) * 3)) + 9)) dX6_timesToMakeGood_39 (nI_add _ _) ?_
    refine j_iconst (pc := 40) hM (v := nI 1) dX6_timesToMakeGood_40 (by decide) ?_
    refine j_isub (pc := 41) hM (v := nI (((min s.1 ((s.2.1 - 1) * 3)) + 9) - 1)) dX6_timesToMakeGood_41 (nsub (by omega)) ?_
    refine j_bipush (pc := 42) hM (v := nI 9) dX6_timesToMakeGood_42 (by decide) ?_
    refine j_idiv (pc := 44) hM (v := nI ((((min s.1 ((s.2.1 - 1) * 3)) + 9) - 1) / 9)) dX6_timesToMakeGood_44 (nne0 (by omega) (by omega)) (ndiv (by omega) (by omega) (by omega)) ?_
    refine j_istore_n (pc := 45) hM [(3, .int (nI ((((min s.1 ((s.2.1 - 1) * 3)) + 9) - 1) / 9))), (2, .int (nI (min s.1 ((s.2.1 - 1) * 3)))), (1, .int (nI (s.2.1 - 1))), (0, .ref a0)] dX6_timesToMakeGood_45 rfl (by decide) rfl ?_
    refine j_aload_n (pc := 46) hM dX6_timesToMakeGood_46 rfl 3 rfl ?_
    refine j_get (pc := 47) hM fd_X6_15 0 rfl rfl dX6_timesToMakeGood_47 ?_
    refine j_iload_n (pc := 50) hM dX6_timesToMakeGood_50 rfl 0 rfl ?_
    refine j_iadd (pc := 51) hM (v := nI (s.2.1 + ((((min s.1 ((s.2.1 - 1) * 3)) + 9) - 1) / 9))) dX6_timesToMakeGood_51 (nI_add _ _) ?_
    exact hret () _ _ _ _ trivial rfl (sI (show (s.2.1 + ((((min s.1 ((s.2.1 - 1) * 3)) + 9) - 1) / 9)) = (goodN s) from by simp [goodN, c4])) rfl dX6_timesToMakeGood_52
