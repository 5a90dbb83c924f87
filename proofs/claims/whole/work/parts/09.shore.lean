set_option maxHeartbeats 4000000 in
set_option maxRecDepth 100000 in
theorem c_X8_hasSand (l : Launch) (D : va_G) (cy : ClassId) (o : Nat) (aH : Nat) (aW : Nat) (aD : Nat) (aK : Nat) (aM : Nat) (aA : Nat) (aT : Nat) (aS : Nat) (ns : Nat) (nb : Nat) (na : Nat) (tm : Nat) (sn : Nat) (x : Int32) (hn : ns ≤ 8) : Ct (σ := Unit) l D cy yX8_hasSand cX8_hasSand 2 (some .boolean) { frames := 0, cells := 0, slots := 0, locals := 0 } [.ref o, .int x] [(o, .inr (8, [.ref aH, .ref aW, .ref aD, .ref aK, .ref aM, .ref aA, .ref aT, .ref aS, .int (nI ns), .int (nI nb), .int (nI na), .int (nI tm), .int (nI sn)]))] (fun _ => True) (fun _ => some (.int (nI (if 0 ≤ x.toInt ∧ x.toInt < (ns : Int) then 1 else 0)))) (fun _ => [(o, .inr (8, [.ref aH, .ref aW, .ref aD, .ref aK, .ref aM, .ref aA, .ref aT, .ref aS, .int (nI ns), .int (nI nb), .int (nI na), .int (nI tm), .int (nI sn)]))]) := by
  refine Ct_ofI (by decide) (lb rfl) [(0, .ref o), (1, .int x)] rfl (fun G hM hret => ?_)
  refine j_iload_n (pc := 0) hM dX8_hasSand_0 rfl 1 rfl ?_
  refine j_if_lt (pc := 1) hM 16 dX8_hasSand_1 (by decide) z0_lt (fun c1 => ?_) (fun c1 => ?_)
  · skip
    refine j_iconst (pc := 16) hM (v := nI 0) dX8_hasSand_16 (by decide) ?_
    exact hret () _ _ _ _ trivial rfl (sI (show 0 = (if 0 ≤ x.toInt ∧ x.toInt < (ns : Int) then 1 else 0) from by first | rfl | omega | (rw [if_pos (by omega)]) | (rw [if_neg (by omega)]))) rfl dX8_hasSand_17
  · skip
    refine j_iload_n (pc := 4) hM dX8_hasSand_4 rfl 1 rfl ?_
    refine j_aload_n (pc := 5) hM dX8_hasSand_5 rfl 0 rfl ?_
    refine j_get (pc := 6) hM fd_X8_40 0 rfl rfl dX8_hasSand_6 ?_
    refine j_icmp_ge (pc := 9) hM 16 dX8_hasSand_9 (by decide) (zGE (by omega)) (fun c9 => ?_) (fun c9 => ?_)
    · skip
      refine j_iconst (pc := 16) hM (v := nI 0) dX8_hasSand_16 (by decide) ?_
      exact hret () _ _ _ _ trivial rfl (sI (show 0 = (if 0 ≤ x.toInt ∧ x.toInt < (ns : Int) then 1 else 0) from by first | rfl | omega | (rw [if_pos (by omega)]) | (rw [if_neg (by omega)]))) rfl dX8_hasSand_17
    · skip
      refine j_iconst (pc := 12) hM (v := nI 1) dX8_hasSand_12 (by decide) ?_
      refine j_goto (pc := 13) hM 17 dX8_hasSand_13 (by decide) ?_
      exact hret () _ _ _ _ trivial rfl (sI (show 1 = (if 0 ≤ x.toInt ∧ x.toInt < (ns : Int) then 1 else 0) from by first | rfl | omega | (rw [if_pos (by omega)]) | (rw [if_neg (by omega)]))) rfl dX8_hasSand_17
set_option maxHeartbeats 4000000 in
set_option maxRecDepth 100000 in
theorem c_X8_hasBoat (l : Launch) (D : va_G) (cy : ClassId) (o : Nat) (aH : Nat) (aW : Nat) (aD : Nat) (aK : Nat) (aM : Nat) (aA : Nat) (aT : Nat) (aS : Nat) (ns : Nat) (nb : Nat) (na : Nat) (tm : Nat) (sn : Nat) (x : Int32) (hn : nb ≤ 8) : Ct (σ := Unit) l D cy yX8_hasBoat cX8_hasBoat 2 (some .boolean) { frames := 0, cells := 0, slots := 0, locals := 0 } [.ref o, .int x] [(o, .inr (8, [.ref aH, .ref aW, .ref aD, .ref aK, .ref aM, .ref aA, .ref aT, .ref aS, .int (nI ns), .int (nI nb), .int (nI na), .int (nI tm), .int (nI sn)]))] (fun _ => True) (fun _ => some (.int (nI (if 0 ≤ x.toInt ∧ x.toInt < (nb : Int) then 1 else 0)))) (fun _ => [(o, .inr (8, [.ref aH, .ref aW, .ref aD, .ref aK, .ref aM, .ref aA, .ref aT, .ref aS, .int (nI ns), .int (nI nb), .int (nI na), .int (nI tm), .int (nI sn)]))]) := by
  refine Ct_ofI (by decide) (lb rfl) [(0, .ref o), (1, .int x)] rfl (fun G hM hret => ?_)
  refine j_iload_n (pc := 0) hM dX8_hasBoat_0 rfl 1 rfl ?_
  refine j_if_lt (pc := 1) hM 16 dX8_hasBoat_1 (by decide) z0_lt (fun c1 => ?_) (fun c1 => ?_)
  · skip
    refine j_iconst (pc := 16) hM (v := nI 0) dX8_hasBoat_16 (by decide) ?_
    exact hret () _ _ _ _ trivial rfl (sI (show 0 = (if 0 ≤ x.toInt ∧ x.toInt < (nb : Int) then 1 else 0) from by first | rfl | omega | (rw [if_pos (by omega)]) | (rw [if_neg (by omega)]))) rfl dX8_hasBoat_17
  · skip
    refine j_iload_n (pc := 4) hM dX8_hasBoat_4 rfl 1 rfl ?_
    refine j_aload_n (pc := 5) hM dX8_hasBoat_5 rfl 0 rfl ?_
    refine j_get (pc := 6) hM fd_X8_44 0 rfl rfl dX8_hasBoat_6 ?_
    refine j_icmp_ge (pc := 9) hM 16 dX8_hasBoat_9 (by decide) (zGE (by omega)) (fun c9 => ?_) (fun c9 => ?_)
    · skip
      refine j_iconst (pc := 16) hM (v := nI 0) dX8_hasBoat_16 (by decide) ?_
      exact hret () _ _ _ _ trivial rfl (sI (show 0 = (if 0 ≤ x.toInt ∧ x.toInt < (nb : Int) then 1 else 0) from by first | rfl | omega | (rw [if_pos (by omega)]) | (rw [if_neg (by omega)]))) rfl dX8_hasBoat_17
    · skip
      refine j_iconst (pc := 12) hM (v := nI 1) dX8_hasBoat_12 (by decide) ?_
      refine j_goto (pc := 13) hM 17 dX8_hasBoat_13 (by decide) ?_
      exact hret () _ _ _ _ trivial rfl (sI (show 1 = (if 0 ≤ x.toInt ∧ x.toInt < (nb : Int) then 1 else 0) from by first | rfl | omega | (rw [if_pos (by omega)]) | (rw [if_neg (by omega)]))) rfl dX8_hasBoat_17
set_option maxHeartbeats 4000000 in
set_option maxRecDepth 100000 in
theorem c_X8_hasAsker (l : Launch) (D : va_G) (cy : ClassId) (o : Nat) (aH : Nat) (aW : Nat) (aD : Nat) (aK : Nat) (aM : Nat) (aA : Nat) (aT : Nat) (aS : Nat) (ns : Nat) (nb : Nat) (na : Nat) (tm : Nat) (sn : Nat) (x : Int32) (hn : na ≤ 8) : Ct (σ := Unit) l D cy yX8_hasAsker cX8_hasAsker 2 (some .boolean) { frames := 0, cells := 0, slots := 0, locals := 0 } [.ref o, .int x] [(o, .inr (8, [.ref aH, .ref aW, .ref aD, .ref aK, .ref aM, .ref aA, .ref aT, .ref aS, .int (nI ns), .int (nI nb), .int (nI na), .int (nI tm), .int (nI sn)]))] (fun _ => True) (fun _ => some (.int (nI (if 0 ≤ x.toInt ∧ x.toInt < (na : Int) then 1 else 0)))) (fun _ => [(o, .inr (8, [.ref aH, .ref aW, .ref aD, .ref aK, .ref aM, .ref aA, .ref aT, .ref aS, .int (nI ns), .int (nI nb), .int (nI na), .int (nI tm), .int (nI sn)]))]) := by
  refine Ct_ofI (by decide) (lb rfl) [(0, .ref o), (1, .int x)] rfl (fun G hM hret => ?_)
  refine j_iload_n (pc := 0) hM dX8_hasAsker_0 rfl 1 rfl ?_
  refine j_if_lt (pc := 1) hM 16 dX8_hasAsker_1 (by decide) z0_lt (fun c1 => ?_) (fun c1 => ?_)
  · skip
    refine j_iconst (pc := 16) hM (v := nI 0) dX8_hasAsker_16 (by decide) ?_
    exact hret () _ _ _ _ trivial rfl (sI (show 0 = (if 0 ≤ x.toInt ∧ x.toInt < (na : Int) then 1 else 0) from by first | rfl | omega | (rw [if_pos (by omega)]) | (rw [if_neg (by omega)]))) rfl dX8_hasAsker_17
  · skip
    refine j_iload_n (pc := 4) hM dX8_hasAsker_4 rfl 1 rfl ?_
    refine j_aload_n (pc := 5) hM dX8_hasAsker_5 rfl 0 rfl ?_
    refine j_get (pc := 6) hM fd_X8_47 0 rfl rfl dX8_hasAsker_6 ?_
    refine j_icmp_ge (pc := 9) hM 16 dX8_hasAsker_9 (by decide) (zGE (by omega)) (fun c9 => ?_) (fun c9 => ?_)
    · skip
      refine j_iconst (pc := 16) hM (v := nI 0) dX8_hasAsker_16 (by decide) ?_
      exact hret () _ _ _ _ trivial rfl (sI (show 0 = (if 0 ≤ x.toInt ∧ x.toInt < (na : Int) then 1 else 0) from by first | rfl | omega | (rw [if_pos (by omega)]) | (rw [if_neg (by omega)]))) rfl dX8_hasAsker_17
    · skip
      refine j_iconst (pc := 12) hM (v := nI 1) dX8_hasAsker_12 (by decide) ?_
      refine j_goto (pc := 13) hM 17 dX8_hasAsker_13 (by decide) ?_
      exact hret () _ _ _ _ trivial rfl (sI (show 1 = (if 0 ≤ x.toInt ∧ x.toInt < (na : Int) then 1 else 0) from by first | rfl | omega | (rw [if_pos (by omega)]) | (rw [if_neg (by omega)]))) rfl dX8_hasAsker_17
set_option maxHeartbeats 4000000 in
set_option maxRecDepth 100000 in
theorem c_X8_isThere (l : Launch) (D : va_G) (cy : ClassId) (o : Nat) (aH : Nat) (aW : Nat) (aD : Nat) (aK : Nat) (aM : Nat) (aA : Nat) (aT : Nat) (aS : Nat) (ns : Nat) (nb : Nat) (na : Nat) (tm : Nat) (sn : Nat) (hn : na ≤ 8) : Ct (σ := Unit) l D cy yX8_isThere cX8_isThere 1 (some .boolean) { frames := 0, cells := 0, slots := 0, locals := 0 } [.ref o] [(o, .inr (8, [.ref aH, .ref aW, .ref aD, .ref aK, .ref aM, .ref aA, .ref aT, .ref aS, .int (nI ns), .int (nI nb), .int (nI na), .int (nI tm), .int (nI sn)]))] (fun _ => True) (fun _ => some (.int (nI (if 0 < na then 1 else 0)))) (fun _ => [(o, .inr (8, [.ref aH, .ref aW, .ref aD, .ref aK, .ref aM, .ref aA, .ref aT, .ref aS, .int (nI ns), .int (nI nb), .int (nI na), .int (nI tm), .int (nI sn)]))]) := by
  refine Ct_ofI (by decide) (lb rfl) [(0, .ref o)] rfl (fun G hM hret => ?_)
  refine j_aload_n (pc := 0) hM dX8_isThere_0 rfl 0 rfl ?_
  refine j_get (pc := 1) hM fd_X8_47 0 rfl rfl dX8_isThere_1 ?_
  refine j_if_le (pc := 4) hM 11 dX8_isThere_4 (by decide) (i0_le (by omega)) (fun c4 => ?_) (fun c4 => ?_)
  · skip
    refine j_iconst (pc := 11) hM (v := nI 0) dX8_isThere_11 (by decide) ?_
    exact hret () _ _ _ _ trivial rfl (sI (show 0 = (if 0 < na then 1 else 0) from by first | rfl | omega | (rw [if_pos (by omega)]) | (rw [if_neg (by omega)]))) rfl dX8_isThere_12
  · skip
    refine j_iconst (pc := 7) hM (v := nI 1) dX8_isThere_7 (by decide) ?_
    refine j_goto (pc := 8) hM 12 dX8_isThere_8 (by decide) ?_
    exact hret () _ _ _ _ trivial rfl (sI (show 1 = (if 0 < na then 1 else 0) from by first | rfl | omega | (rw [if_pos (by omega)]) | (rw [if_neg (by omega)]))) rfl dX8_isThere_12
set_option maxHeartbeats 4000000 in
set_option maxRecDepth 100000 in
theorem c_X8_leastTide (l : Launch) (D : va_G) (cy : ClassId) (o : Nat) (aH : Nat) (aW : Nat) (aD : Nat) (aK : Nat) (aM : Nat) (aA : Nat) (aT : Nat) (aS : Nat) (ns : Nat) (nb : Nat) (na : Nat) (tm : Nat) (sn : Nat) (h : Nat → Nat) (w : Nat → Nat) (d : Nat → Nat) (b : Nat) (ok : okB ns nb h w d) (hb : b < nb) : Ct (σ := Unit) l D cy yX8_leastTide cX8_leastTide 5 (some .int) { frames := 1, cells := 0, slots := 0, locals := 13 } [.ref o, .int (nI b)] [(o, .inr (8, [.ref aH, .ref aW, .ref aD, .ref aK, .ref aM, .ref aA, .ref aT, .ref aS, .int (nI ns), .int (nI nb), .int (nI na), .int (nI tm), .int (nI sn)])), (aH, arC cy 8 h), (aW, arC cy 3 w), (aD, arC cy 3 d)] (fun _ => True) (fun _ => some (.int (nI (leastT h w d b)))) (fun _ => [(o, .inr (8, [.ref aH, .ref aW, .ref aD, .ref aK, .ref aM, .ref aA, .ref aT, .ref aS, .int (nI ns), .int (nI nb), .int (nI na), .int (nI tm), .int (nI sn)])), (aH, arC cy 8 h), (aW, arC cy 3 w), (aD, arC cy 3 d)]) := by
  refine Ct_ofI (by decide) (lb rfl) [(0, .ref o), (1, .int (nI b))] rfl (fun G hM hret => ?_)
  obtain ⟨e1, e2, e3, e4, e5⟩ := ok
  have hwb := e4 b hb
  have hdb := e5 b hb
  have hhb := e3 (w b) hwb
  refine j_iconst (pc := 0) hM (v := nI 0) dX8_leastTide_0 (by decide) ?_
  refine j_istore_n (pc := 1) hM [(2, .int (nI 0)), (0, .ref o), (1, .int (nI b))] dX8_leastTide_1 rfl (by decide) rfl ?_
  refine j_iconst (pc := 2) hM (v := nI 0) dX8_leastTide_2 (by decide) ?_
  refine j_istore_n (pc := 3) hM [(3, .int (nI 0)), (2, .int (nI 0)), (0, .ref o), (1, .int (nI b))] dX8_leastTide_3 rfl (by decide) rfl ?_
  refine j_iconst (pc := 4) hM (v := nI 0) dX8_leastTide_4 (by decide) ?_
  refine j_istore (pc := 5) hM [(4, .int (nI 0)), (3, .int (nI 0)), (2, .int (nI 0)), (0, .ref o), (1, .int (nI b))] dX8_leastTide_5 (by decide) rfl ?_
  have L7 : ∀ (n7 : Nat) (i : Nat) (x : Nat) (y : Nat), (x = mx h i) → (y = (if i = 0 then 0 else h (i - 1))) → (i ≤ w b + 1) → (x ≤ 9) → (y ≤ 9) → (w b + 1 - i) < n7 → G [(o, .inr (8, [.ref aH, .ref aW, .ref aD, .ref aK, .ref aM, .ref aA, .ref aT, .ref aS, .int (nI ns), .int (nI nb), .int (nI na), .int (nI tm), .int (nI sn)])), (aH, arC cy 8 h), (aW, arC cy 3 w), (aD, arC cy 3 d)] [(0, .ref o), (1, .int (nI b)), (2, .int (nI x)), (3, .int (nI y)), (4, .int (nI i))] 7 [] := by
    intro n7
    induction n7 with
    | zero => intro i x y hx hy hi hx9 hy9 hm7; exact absurd hm7 (Nat.not_lt_zero _)
    | succ n7 ih7 =>
      intro i x y hx hy hi hx9 hy9 hm7
      refine j_iload (pc := 7) hM dX8_leastTide_7 4 rfl ?_
      refine j_aload_n (pc := 9) hM dX8_leastTide_9 rfl 0 rfl ?_
      refine j_get (pc := 10) hM fd_X8_15 0 rfl rfl dX8_leastTide_10 ?_
      refine j_iload_n (pc := 13) hM dX8_leastTide_13 rfl 1 rfl ?_
      refine j_ldN (pc := 14) hM (v := w b) 2 rfl (by omega) (by decide) rfl dX8_leastTide_14 ?_
      have b14 := e4 b (by omega)
      refine j_icmp_gt (pc := 15) hM 47 dX8_leastTide_15 (by decide) (cLT (by omega) (by omega)) (fun c15 => ?_) (fun c15 => ?_)
      · skip
        refine j_iload_n (pc := 47) hM dX8_leastTide_47 rfl 2 rfl ?_
        refine j_iconst (pc := 48) hM (v := nI 1) dX8_leastTide_48 (by decide) ?_
        refine j_iadd (pc := 49) hM (v := nI (x + 1)) dX8_leastTide_49 (nI_add _ _) ?_
        refine j_iload_n (pc := 50) hM dX8_leastTide_50 rfl 3 rfl ?_
        refine j_aload_n (pc := 51) hM dX8_leastTide_51 rfl 0 rfl ?_
        refine j_get (pc := 52) hM fd_X8_18 0 rfl rfl dX8_leastTide_52 ?_
        refine j_iload_n (pc := 55) hM dX8_leastTide_55 rfl 1 rfl ?_
        refine j_ldN (pc := 56) hM (v := d b) 3 rfl (by omega) (by decide) rfl dX8_leastTide_56 ?_
        have b56 := e5 b (by omega)
        refine j_iadd (pc := 57) hM (v := nI (y + (d b))) dX8_leastTide_57 (nI_add _ _) ?_
        refine j_max (pc := 58) hM (v := nI (max (x + 1) (y + (d b)))) ml_X8_74 mw_max ⟨lb rfl, lb rfl, lb rfl, lb rfl⟩ dX8_leastTide_58 (nmax (by omega) (by omega) rfl) ?_
        have hi2 : i = w b + 1 := by omega
        subst hi2
        exact hret () _ _ _ _ trivial rfl (sI (show (max (x + 1) (y + (d b))) = (leastT h w d b) from by rw [hx, hy]; simp [leastT])) rfl dX8_leastTide_61
      · skip
        refine j_iload (pc := 18) hM dX8_leastTide_18 4 rfl ?_
        refine j_aload_n (pc := 20) hM dX8_leastTide_20 rfl 0 rfl ?_
        refine j_get (pc := 21) hM fd_X8_40 0 rfl rfl dX8_leastTide_21 ?_
        refine j_icmp_ge (pc := 24) hM 47 dX8_leastTide_24 (by decide) (cLE (by omega) (by omega)) (fun c24 => ?_) (fun c24 => ?_)
        · skip
          exact absurd c24 (by omega)
        · skip
          refine j_aload_n (pc := 27) hM dX8_leastTide_27 rfl 0 rfl ?_
          refine j_get (pc := 28) hM fd_X8_9 0 rfl rfl dX8_leastTide_28 ?_
          refine j_iload (pc := 31) hM dX8_leastTide_31 4 rfl ?_
          refine j_ldN (pc := 33) hM (v := h i) 1 rfl (by omega) (by decide) rfl dX8_leastTide_33 ?_
          have b33 := e3 i (by omega)
          refine j_istore_n (pc := 34) hM [(3, .int (nI (h i))), (0, .ref o), (1, .int (nI b)), (2, .int (nI x)), (4, .int (nI i))] dX8_leastTide_34 rfl (by decide) rfl ?_
          refine j_iload_n (pc := 35) hM dX8_leastTide_35 rfl 3 rfl ?_
          refine j_iload_n (pc := 36) hM dX8_leastTide_36 rfl 0 rfl ?_
          refine j_max (pc := 37) hM (v := nI (max x (h i))) ml_X8_74 mw_max ⟨lb rfl, lb rfl, lb rfl, lb rfl⟩ dX8_leastTide_37 (nmax (by omega) (by omega) rfl) ?_
          refine j_istore_n (pc := 40) hM [(2, .int (nI (max x (h i)))), (3, .int (nI (h i))), (0, .ref o), (1, .int (nI b)), (4, .int (nI i))] dX8_leastTide_40 rfl (by decide) rfl ?_
          refine j_iinc (pc := 41) hM (n' := 4) [(4, .int (nI (i + 1))), (2, .int (nI (max x (h i)))), (3, .int (nI (h i))), (0, .ref o), (1, .int (nI b))] dX8_leastTide_41 rfl (nI_add _ 1) (by decide) rfl ?_
          refine j_goto (pc := 44) hM 7 dX8_leastTide_44 (by decide) ?_
          refine j_lv (pc := 7) hM [3, 4, 1, 2, 0] rfl ?_
          exact ih7 (i + 1) (max x (h i)) (h i) (by rw [hx]; rfl) (by simp) (by omega) (by omega) (by omega) (by omega)
  refine j_lv (pc := 7) hM [3, 4, 2, 1, 0] rfl ?_
  exact L7 _ 0 0 0 rfl rfl (by omega) (by omega) (by omega) (Nat.lt_succ_self _)
set_option maxHeartbeats 4000000 in
set_option maxRecDepth 100000 in
theorem c_X8_letAsk (l : Launch) (D : va_G) (cy : ClassId) (o : Nat) (aH : Nat) (aW : Nat) (aD : Nat) (aK : Nat) (aM : Nat) (aA : Nat) (aT : Nat) (aS : Nat) (ns : Nat) (nb : Nat) (na : Nat) (tm : Nat) (sn : Nat) (k : Nat → Nat) (m : Nat → Nat) (aE : Nat) (e : S3) (a : Nat) (okk : okK na k m) (oke : okS e) (ha : a < na) : Ct (σ := Unit) l D cy yX8_letAsk cX8_letAsk 3 none { frames := 2, cells := 0, slots := 0, locals := 39 } [.ref o, .int (nI a), .ref aE] [(o, .inr (8, [.ref aH, .ref aW, .ref aD, .ref aK, .ref aM, .ref aA, .ref aT, .ref aS, .int (nI ns), .int (nI nb), .int (nI na), .int (nI tm), .int (nI sn)])), (aK, arC cy 5 k), (aM, arC cy 5 m), (aE, .inr (6, [.int (nI e.1), .int (nI e.2.1), .int (nI e.2.2)]))] (fun _ => True) (fun _ => none) (fun _ => [(o, .inr (8, [.ref aH, .ref aW, .ref aD, .ref aK, .ref aM, .ref aA, .ref aT, .ref aS, .int (nI ns), .int (nI nb), .int (nI na), .int (nI tm), .int (nI sn)])), (aK, arC cy 5 k), (aM, arC cy 5 m), (aE, .inr (6, [.int (nI ((hear (k a) (m a) e).1)), .int (nI ((hear (k a) (m a) e).2.1)), .int (nI ((hear (k a) (m a) e).2.2))]))]) := by
  refine Ct_ofV (by decide) (lb rfl) [(0, .ref o), (1, .int (nI a)), (2, .ref aE)] rfl (fun G hM hret => ?_)
  obtain ⟨k1, k2, k3⟩ := id okk
  refine j_aload_n (pc := 0) hM dX8_letAsk_0 rfl 0 rfl ?_
  refine j_iload_n (pc := 1) hM dX8_letAsk_1 rfl 1 rfl ?_
  refine j_callV (pc := 2) hM cv_X8_66 (As := [.int (nI a)]) (rest := []) (b := o) (c_X8_hasAsker l D cy o aH aW aD aK aM aA aT aS ns nb na tm sn (nI a) (by omega)) ⟨lb rfl, lb rfl, lb rfl, lb rfl⟩ rfl 0 rfl rfl [0] [1, 2, 3] [3, 0, 1, 2] [(aK, arC cy 5 k), (aM, arC cy 5 m), (aE, .inr (6, [.int (nI e.1), .int (nI e.2.1), .int (nI e.2.2)]))] (fun _ => [(o, .inr (8, [.ref aH, .ref aW, .ref aD, .ref aK, .ref aM, .ref aA, .ref aT, .ref aS, .int (nI ns), .int (nI nb), .int (nI na), .int (nI tm), .int (nI sn)])), (aK, arC cy 5 k), (aM, arC cy 5 m), (aE, .inr (6, [.int (nI e.1), .int (nI e.2.1), .int (nI e.2.2)]))]) rfl (by decide) rfl (by decide) (by decide) (by decide) (fun _ => rfl) (lb rfl) dX8_letAsk_2 hM.two (fun _ _ => ?_)
  show G [(o, .inr (8, [.ref aH, .ref aW, .ref aD, .ref aK, .ref aM, .ref aA, .ref aT, .ref aS, .int (nI ns), .int (nI nb), .int (nI na), .int (nI tm), .int (nI sn)])), (aK, arC cy 5 k), (aM, arC cy 5 m), (aE, .inr (6, [.int (nI e.1), .int (nI e.2.1), .int (nI e.2.2)]))] [(0, .ref o), (1, .int (nI a)), (2, .ref aE)] 5 [.int (nI (if 0 ≤ (nI a).toInt ∧ (nI a).toInt < (na : Int) then 1 else 0))]
  refine j_if_eqB (pc := 5) (P := (0 ≤ (nI a).toInt ∧ (nI a).toInt < (na : Int))) hM 24 dX8_letAsk_5 (by decide) b0_eq (fun c5 => ?_) (fun c5 => ?_)
  · skip
    exact absurd (by rw [nti (by omega)]; omega) c5
  · skip
    refine j_aload_n (pc := 8) hM dX8_letAsk_8 rfl 2 rfl ?_
    refine j_aload_n (pc := 9) hM dX8_letAsk_9 rfl 0 rfl ?_
    refine j_get (pc := 10) hM fd_X8_21 0 rfl rfl dX8_letAsk_10 ?_
    refine j_iload_n (pc := 13) hM dX8_letAsk_13 rfl 1 rfl ?_
    refine j_ldN (pc := 14) hM (v := k a) 1 rfl (by omega) (by decide) rfl dX8_letAsk_14 ?_
    have b14 := k2 a (by omega)
    refine j_aload_n (pc := 15) hM dX8_letAsk_15 rfl 0 rfl ?_
    refine j_get (pc := 16) hM fd_X8_24 0 rfl rfl dX8_letAsk_16 ?_
    refine j_iload_n (pc := 19) hM dX8_letAsk_19 rfl 1 rfl ?_
    refine j_ldN (pc := 20) hM (v := m a) 2 rfl (by omega) (by decide) rfl dX8_letAsk_20 ?_
    have b20 := k3 a (by omega)
    refine j_callV (pc := 21) hM cv_X8_70 (As := [.int (nI (k a)), .int (nI (m a))]) (rest := []) (b := aE) (c_X6_hear l D cy aE (k a) (m a) e (by first | assumption | omega) (by first | assumption | omega) oke) ⟨lb rfl, lb rfl, lb rfl, lb rfl⟩ rfl 3 rfl rfl [3] [0, 1, 2] [0, 1, 2, 3] [(o, .inr (8, [.ref aH, .ref aW, .ref aD, .ref aK, .ref aM, .ref aA, .ref aT, .ref aS, .int (nI ns), .int (nI nb), .int (nI na), .int (nI tm), .int (nI sn)])), (aK, arC cy 5 k), (aM, arC cy 5 m)] (fun _ => [(o, .inr (8, [.ref aH, .ref aW, .ref aD, .ref aK, .ref aM, .ref aA, .ref aT, .ref aS, .int (nI ns), .int (nI nb), .int (nI na), .int (nI tm), .int (nI sn)])), (aK, arC cy 5 k), (aM, arC cy 5 m), (aE, .inr (6, [.int (nI ((hear (k a) (m a) e).1)), .int (nI ((hear (k a) (m a) e).2.1)), .int (nI ((hear (k a) (m a) e).2.2))]))]) rfl (by decide) rfl (by decide) (by decide) (by decide) (fun _ => rfl) (lb rfl) dX8_letAsk_21 hM.two (fun _ _ => ?_)
    show G [(o, .inr (8, [.ref aH, .ref aW, .ref aD, .ref aK, .ref aM, .ref aA, .ref aT, .ref aS, .int (nI ns), .int (nI nb), .int (nI na), .int (nI tm), .int (nI sn)])), (aK, arC cy 5 k), (aM, arC cy 5 m), (aE, .inr (6, [.int (nI ((hear (k a) (m a) e).1)), .int (nI ((hear (k a) (m a) e).2.1)), .int (nI ((hear (k a) (m a) e).2.2))]))] [(0, .ref o), (1, .int (nI a)), (2, .ref aE)] 24 []
    exact hret () _ _ _ trivial rfl rfl dX8_letAsk_24
set_option maxHeartbeats 4000000 in
set_option maxRecDepth 100000 in
theorem c_X8_reaches (l : Launch) (D : va_G) (cy : ClassId) (o : Nat) (aH : Nat) (aW : Nat) (aD : Nat) (aK : Nat) (aM : Nat) (aA : Nat) (aT : Nat) (aS : Nat) (ns : Nat) (nb : Nat) (na : Nat) (tm : Nat) (sn : Nat) (h : Nat → Nat) (s : Nat) (t : Nat) (hn : ns ≤ 8) (hh : ∀ i, i < ns → h i ≤ 9) (hs : s < ns) (ht : t ≤ 30) : Ct (σ := Unit) l D cy yX8_reaches cX8_reaches 4 (some .boolean) { frames := 0, cells := 0, slots := 0, locals := 0 } [.ref o, .int (nI s), .int (nI t)] [(o, .inr (8, [.ref aH, .ref aW, .ref aD, .ref aK, .ref aM, .ref aA, .ref aT, .ref aS, .int (nI ns), .int (nI nb), .int (nI na), .int (nI tm), .int (nI sn)])), (aH, arC cy 8 h)] (fun _ => True) (fun _ => some (.int (nI (if mx h (s + 1) < t then 1 else 0)))) (fun _ => [(o, .inr (8, [.ref aH, .ref aW, .ref aD, .ref aK, .ref aM, .ref aA, .ref aT, .ref aS, .int (nI ns), .int (nI nb), .int (nI na), .int (nI tm), .int (nI sn)])), (aH, arC cy 8 h)]) := by
  refine Ct_ofI (by decide) (lb rfl) [(0, .ref o), (1, .int (nI s)), (2, .int (nI t))] rfl (fun G hM hret => ?_)
  refine j_iconst (pc := 0) hM (v := nI 0) dX8_reaches_0 (by decide) ?_
  refine j_istore_n (pc := 1) hM [(3, .int (nI 0)), (0, .ref o), (1, .int (nI s)), (2, .int (nI t))] dX8_reaches_1 rfl (by decide) rfl ?_
  have L2 : ∀ (n2 : Nat) (i : Nat), (i ≤ s + 1) → (∀ j, j < i → h j < t) → (s + 1 - i) < n2 → G [(o, .inr (8, [.ref aH, .ref aW, .ref aD, .ref aK, .ref aM, .ref aA, .ref aT, .ref aS, .int (nI ns), .int (nI nb), .int (nI na), .int (nI tm), .int (nI sn)])), (aH, arC cy 8 h)] [(0, .ref o), (1, .int (nI s)), (2, .int (nI t)), (3, .int (nI i))] 2 [] := by
    intro n2
    induction n2 with
    | zero => intro i hi hx hm2; exact absurd hm2 (Nat.not_lt_zero _)
    | succ n2 ih2 =>
      intro i hi hx hm2
      refine j_iload_n (pc := 2) hM dX8_reaches_2 rfl 3 rfl ?_
      refine j_iload_n (pc := 3) hM dX8_reaches_3 rfl 1 rfl ?_
      refine j_icmp_gt (pc := 4) hM 33 dX8_reaches_4 (by decide) (cLT (by omega) (by omega)) (fun c4 => ?_) (fun c4 => ?_)
      · skip
        refine j_iconst (pc := 33) hM (v := nI 1) dX8_reaches_33 (by decide) ?_
        have hi2 : i = s + 1 := by omega
        subst hi2
        have h0 := hx 0 (by omega)
        exact hret () _ _ _ _ trivial rfl (sI (show 1 = (if mx h (s + 1) < t then 1 else 0) from by rw [if_pos ((mx_lt (by omega)).mpr hx)])) rfl dX8_reaches_34
      · skip
        refine j_iload_n (pc := 7) hM dX8_reaches_7 rfl 3 rfl ?_
        refine j_aload_n (pc := 8) hM dX8_reaches_8 rfl 0 rfl ?_
        refine j_get (pc := 9) hM fd_X8_40 0 rfl rfl dX8_reaches_9 ?_
        refine j_icmp_ge (pc := 12) hM 33 dX8_reaches_12 (by decide) (cLE (by omega) (by omega)) (fun c12 => ?_) (fun c12 => ?_)
        · skip
          exact absurd c12 (by omega)
        · skip
          refine j_aload_n (pc := 15) hM dX8_reaches_15 rfl 0 rfl ?_
          refine j_get (pc := 16) hM fd_X8_9 0 rfl rfl dX8_reaches_16 ?_
          refine j_iload_n (pc := 19) hM dX8_reaches_19 rfl 3 rfl ?_
          refine j_ldN (pc := 20) hM (v := h i) 1 rfl (by omega) (by decide) rfl dX8_reaches_20 ?_
          have b20 := hh i (by omega)
          refine j_iload_n (pc := 21) hM dX8_reaches_21 rfl 2 rfl ?_
          refine j_icmp_lt (pc := 22) hM 27 dX8_reaches_22 (by decide) (cLT (by omega) (by omega)) (fun c22 => ?_) (fun c22 => ?_)
          · skip
            refine j_iinc (pc := 27) hM (n' := 3) [(3, .int (nI (i + 1))), (0, .ref o), (1, .int (nI s)), (2, .int (nI t))] dX8_reaches_27 rfl (nI_add _ 1) (by decide) rfl ?_
            refine j_goto (pc := 30) hM 2 dX8_reaches_30 (by decide) ?_
            refine j_lv (pc := 2) hM [1, 2, 3, 0] rfl ?_
            exact ih2 (i + 1) (by omega) (fun j hj => by rcases Nat.lt_or_ge j i with z | z; exact hx j z; rw [show j = i by omega]; omega) (by omega)
          · skip
            refine j_iconst (pc := 25) hM (v := nI 0) dX8_reaches_25 (by decide) ?_
            exact hret () _ _ _ _ trivial rfl (sI (show 0 = (if mx h (s + 1) < t then 1 else 0) from by rw [if_neg (fun q => c22 ((mx_lt (by omega)).mp q i (by omega)))])) rfl dX8_reaches_26
  refine j_lv (pc := 2) hM [1, 2, 3, 0] rfl ?_
  exact L2 _ 0 (by omega) (fun j hj => absurd hj (Nat.not_lt_zero j)) (Nat.lt_succ_self _)
set_option maxHeartbeats 4000000 in
set_option maxRecDepth 100000 in
theorem c_X8_boatsOn (l : Launch) (D : va_G) (cy : ClassId) (o : Nat) (aH : Nat) (aW : Nat) (aD : Nat) (aK : Nat) (aM : Nat) (aA : Nat) (aT : Nat) (aS : Nat) (ns : Nat) (nb : Nat) (na : Nat) (tm : Nat) (sn : Nat) (w : Nat → Nat) (s : Nat) (hnb : nb ≤ 3) (hw : ∀ b, b < nb → w b < ns) (hn : ns ≤ 8) (hs : s < ns) : Ct (σ := Unit) l D cy yX8_boatsOn cX8_boatsOn 4 (some .int) { frames := 0, cells := 0, slots := 0, locals := 0 } [.ref o, .int (nI s)] [(o, .inr (8, [.ref aH, .ref aW, .ref aD, .ref aK, .ref aM, .ref aA, .ref aT, .ref aS, .int (nI ns), .int (nI nb), .int (nI na), .int (nI tm), .int (nI sn)])), (aW, arC cy 3 w)] (fun _ => True) (fun _ => some (.int (nI (bon w s nb)))) (fun _ => [(o, .inr (8, [.ref aH, .ref aW, .ref aD, .ref aK, .ref aM, .ref aA, .ref aT, .ref aS, .int (nI ns), .int (nI nb), .int (nI na), .int (nI tm), .int (nI sn)])), (aW, arC cy 3 w)]) := by
  refine Ct_ofI (by decide) (lb rfl) [(0, .ref o), (1, .int (nI s))] rfl (fun G hM hret => ?_)
  refine j_iconst (pc := 0) hM (v := nI 0) dX8_boatsOn_0 (by decide) ?_
  refine j_istore_n (pc := 1) hM [(2, .int (nI 0)), (0, .ref o), (1, .int (nI s))] dX8_boatsOn_1 rfl (by decide) rfl ?_
  refine j_iconst (pc := 2) hM (v := nI 0) dX8_boatsOn_2 (by decide) ?_
  refine j_istore_n (pc := 3) hM [(3, .int (nI 0)), (2, .int (nI 0)), (0, .ref o), (1, .int (nI s))] dX8_boatsOn_3 rfl (by decide) rfl ?_
  have L4 : ∀ (n4 : Nat) (i : Nat) (x : Nat), (i ≤ nb) → (x = bon w s i) → (nb - i) < n4 → G [(o, .inr (8, [.ref aH, .ref aW, .ref aD, .ref aK, .ref aM, .ref aA, .ref aT, .ref aS, .int (nI ns), .int (nI nb), .int (nI na), .int (nI tm), .int (nI sn)])), (aW, arC cy 3 w)] [(0, .ref o), (1, .int (nI s)), (2, .int (nI x)), (3, .int (nI i))] 4 [] := by
    intro n4
    induction n4 with
    | zero => intro i x hi hx hm4; exact absurd hm4 (Nat.not_lt_zero _)
    | succ n4 ih4 =>
      intro i x hi hx hm4
      refine j_iload_n (pc := 4) hM dX8_boatsOn_4 rfl 3 rfl ?_
      refine j_aload_n (pc := 5) hM dX8_boatsOn_5 rfl 0 rfl ?_
      refine j_get (pc := 6) hM fd_X8_44 0 rfl rfl dX8_boatsOn_6 ?_
      refine j_icmp_ge (pc := 9) hM 34 dX8_boatsOn_9 (by decide) (cLE (by omega) (by omega)) (fun c9 => ?_) (fun c9 => ?_)
      · skip
        refine j_iload_n (pc := 34) hM dX8_boatsOn_34 rfl 2 rfl ?_
        exact hret () _ _ _ _ trivial rfl (sI (show x = (bon w s nb) from by rw [hx, show i = nb by omega])) rfl dX8_boatsOn_35
      · skip
        refine j_aload_n (pc := 12) hM dX8_boatsOn_12 rfl 0 rfl ?_
        refine j_get (pc := 13) hM fd_X8_15 0 rfl rfl dX8_boatsOn_13 ?_
        refine j_iload_n (pc := 16) hM dX8_boatsOn_16 rfl 3 rfl ?_
        refine j_ldN (pc := 17) hM (v := w i) 1 rfl (by omega) (by decide) rfl dX8_boatsOn_17 ?_
        have b17 := hw i (by omega)
        refine j_iload_n (pc := 18) hM dX8_boatsOn_18 rfl 1 rfl ?_
        refine j_icmp_ne (pc := 19) hM 28 dX8_boatsOn_19 (by decide) (cEQ (by omega) (by omega)) (fun c19 => ?_) (fun c19 => ?_)
        · skip
          refine j_iinc (pc := 28) hM (n' := 3) [(3, .int (nI (i + 1))), (0, .ref o), (1, .int (nI s)), (2, .int (nI x))] dX8_boatsOn_28 rfl (nI_add _ 1) (by decide) rfl ?_
          refine j_goto (pc := 31) hM 4 dX8_boatsOn_31 (by decide) ?_
          refine j_lv (pc := 4) hM [1, 2, 3, 0] rfl ?_
          exact ih4 (i + 1) x (by omega) (by rw [hx]; simp [bon, c19]) (by omega)
        · skip
          refine j_iload_n (pc := 22) hM dX8_boatsOn_22 rfl 2 rfl ?_
          refine j_iconst (pc := 23) hM (v := nI 1) dX8_boatsOn_23 (by decide) ?_
          refine j_iload_n (pc := 24) hM dX8_boatsOn_24 rfl 3 rfl ?_
          refine j_ishl (pc := 25) hM (v := nI (1 * 2 ^ i)) dX8_boatsOn_25 (nshl (by omega) (by have := Nat.pow_le_pow_right (show 0 < 2 by decide) (show i ≤ 3 by omega); omega)) ?_
          refine j_ior (pc := 26) hM (v := nI (x ||| (1 * 2 ^ i))) dX8_boatsOn_26 (nor _ _) ?_
          refine j_istore_n (pc := 27) hM [(2, .int (nI (x ||| (1 * 2 ^ i)))), (0, .ref o), (1, .int (nI s)), (3, .int (nI i))] dX8_boatsOn_27 rfl (by decide) rfl ?_
          refine j_iinc (pc := 28) hM (n' := 3) [(3, .int (nI (i + 1))), (2, .int (nI (x ||| (1 * 2 ^ i)))), (0, .ref o), (1, .int (nI s))] dX8_boatsOn_28 rfl (nI_add _ 1) (by decide) rfl ?_
          refine j_goto (pc := 31) hM 4 dX8_boatsOn_31 (by decide) ?_
          refine j_lv (pc := 4) hM [2, 3, 1, 0] rfl ?_
          exact ih4 (i + 1) (x ||| (1 * 2 ^ i)) (by omega) (by rw [hx]; simp [bon, c19]) (by omega)
  refine j_lv (pc := 4) hM [2, 3, 1, 0] rfl ?_
  exact L4 _ 0 0 (by omega) rfl (Nat.lt_succ_self _)
set_option maxHeartbeats 4000000 in
set_option maxRecDepth 100000 in
theorem c_X8_boatsAfloat (l : Launch) (D : va_G) (cy : ClassId) (o : Nat) (aH : Nat) (aW : Nat) (aD : Nat) (aK : Nat) (aM : Nat) (aA : Nat) (aT : Nat) (aS : Nat) (ns : Nat) (nb : Nat) (na : Nat) (tm : Nat) (sn : Nat) (h : Nat → Nat) (w : Nat → Nat) (d : Nat → Nat) (t : Nat) (ok : okB ns nb h w d) (ht : t ≤ 30) : Ct (σ := Unit) l D cy yX8_boatsAfloat cX8_boatsAfloat 4 (some .int) { frames := 2, cells := 0, slots := 0, locals := 37 } [.ref o, .int (nI t)] [(o, .inr (8, [.ref aH, .ref aW, .ref aD, .ref aK, .ref aM, .ref aA, .ref aT, .ref aS, .int (nI ns), .int (nI nb), .int (nI na), .int (nI tm), .int (nI sn)])), (aH, arC cy 8 h), (aW, arC cy 3 w), (aD, arC cy 3 d)] (fun _ => True) (fun _ => some (.int (nI (nfl h w d t nb)))) (fun _ => [(o, .inr (8, [.ref aH, .ref aW, .ref aD, .ref aK, .ref aM, .ref aA, .ref aT, .ref aS, .int (nI ns), .int (nI nb), .int (nI na), .int (nI tm), .int (nI sn)])), (aH, arC cy 8 h), (aW, arC cy 3 w), (aD, arC cy 3 d)]) := by
  refine Ct_ofI (by decide) (lb rfl) [(0, .ref o), (1, .int (nI t))] rfl (fun G hM hret => ?_)
  have e2 := ok.2.1
  refine j_iconst (pc := 0) hM (v := nI 0) dX8_boatsAfloat_0 (by decide) ?_
  refine j_istore_n (pc := 1) hM [(2, .int (nI 0)), (0, .ref o), (1, .int (nI t))] dX8_boatsAfloat_1 rfl (by decide) rfl ?_
  refine j_iconst (pc := 2) hM (v := nI 0) dX8_boatsAfloat_2 (by decide) ?_
  refine j_istore_n (pc := 3) hM [(3, .int (nI 0)), (2, .int (nI 0)), (0, .ref o), (1, .int (nI t))] dX8_boatsAfloat_3 rfl (by decide) rfl ?_
  have L4 : ∀ (n4 : Nat) (i : Nat) (x : Nat), (i ≤ nb) → (x = nfl h w d t i) → (nb - i) < n4 → G [(o, .inr (8, [.ref aH, .ref aW, .ref aD, .ref aK, .ref aM, .ref aA, .ref aT, .ref aS, .int (nI ns), .int (nI nb), .int (nI na), .int (nI tm), .int (nI sn)])), (aH, arC cy 8 h), (aW, arC cy 3 w), (aD, arC cy 3 d)] [(0, .ref o), (1, .int (nI t)), (2, .int (nI x)), (3, .int (nI i))] 4 [] := by
    intro n4
    induction n4 with
    | zero => intro i x hi hx hm4; exact absurd hm4 (Nat.not_lt_zero _)
    | succ n4 ih4 =>
      intro i x hi hx hm4
      refine j_iload_n (pc := 4) hM dX8_boatsAfloat_4 rfl 3 rfl ?_
      refine j_aload_n (pc := 5) hM dX8_boatsAfloat_5 rfl 0 rfl ?_
      refine j_get (pc := 6) hM fd_X8_44 0 rfl rfl dX8_boatsAfloat_6 ?_
      refine j_icmp_ge (pc := 9) hM 30 dX8_boatsAfloat_9 (by decide) (cLE (by omega) (by omega)) (fun c9 => ?_) (fun c9 => ?_)
      · skip
        refine j_iload_n (pc := 30) hM dX8_boatsAfloat_30 rfl 2 rfl ?_
        exact hret () _ _ _ _ trivial rfl (sI (show x = (nfl h w d t nb) from by rw [hx, show i = nb by omega])) rfl dX8_boatsAfloat_31
      · skip
        refine j_iload_n (pc := 12) hM dX8_boatsAfloat_12 rfl 1 rfl ?_
        refine j_aload_n (pc := 13) hM dX8_boatsAfloat_13 rfl 0 rfl ?_
        refine j_iload_n (pc := 14) hM dX8_boatsAfloat_14 rfl 3 rfl ?_
        refine j_callV (pc := 15) hM cv_X8_80 (As := [.int (nI i)]) (rest := [.int (nI t)]) (b := o) (c_X8_leastTide l D cy o aH aW aD aK aM aA aT aS ns nb na tm sn h w d i ok (by omega)) ⟨lb rfl, lb rfl, lb rfl, lb rfl⟩ rfl 0 rfl rfl [0, 1, 2, 3] [] [0, 1, 2, 3] [] (fun _ => [(o, .inr (8, [.ref aH, .ref aW, .ref aD, .ref aK, .ref aM, .ref aA, .ref aT, .ref aS, .int (nI ns), .int (nI nb), .int (nI na), .int (nI tm), .int (nI sn)])), (aH, arC cy 8 h), (aW, arC cy 3 w), (aD, arC cy 3 d)]) rfl (by decide) rfl (by decide) (by decide) (by decide) (fun _ => rfl) (lb rfl) dX8_boatsAfloat_15 hM.two (fun _ _ => ?_)
        show G [(o, .inr (8, [.ref aH, .ref aW, .ref aD, .ref aK, .ref aM, .ref aA, .ref aT, .ref aS, .int (nI ns), .int (nI nb), .int (nI na), .int (nI tm), .int (nI sn)])), (aH, arC cy 8 h), (aW, arC cy 3 w), (aD, arC cy 3 d)] [(0, .ref o), (1, .int (nI t)), (2, .int (nI x)), (3, .int (nI i))] 18 [.int (nI (leastT h w d i)), .int (nI t)]
        have hq := leastT_le ok (show i < nb by omega)
        refine j_icmp_lt (pc := 18) hM 24 dX8_boatsAfloat_18 (by decide) (cLT (by omega) (by omega)) (fun c18 => ?_) (fun c18 => ?_)
        · skip
          refine j_iinc (pc := 24) hM (n' := 3) [(3, .int (nI (i + 1))), (0, .ref o), (1, .int (nI t)), (2, .int (nI x))] dX8_boatsAfloat_24 rfl (nI_add _ 1) (by decide) rfl ?_
          refine j_goto (pc := 27) hM 4 dX8_boatsAfloat_27 (by decide) ?_
          refine j_lv (pc := 4) hM [1, 2, 3, 0] rfl ?_
          exact ih4 (i + 1) x (by omega) (by rw [hx]; simp only [nfl]; first | (rw [if_pos (by omega)]; done) | (rw [if_neg (by omega), Nat.add_zero])) (by omega)
        · skip
          refine j_iinc (pc := 21) hM (n' := 2) [(2, .int (nI (x + 1))), (0, .ref o), (1, .int (nI t)), (3, .int (nI i))] dX8_boatsAfloat_21 rfl (nI_add _ 1) (by decide) rfl ?_
          refine j_iinc (pc := 24) hM (n' := 3) [(3, .int (nI (i + 1))), (2, .int (nI (x + 1))), (0, .ref o), (1, .int (nI t))] dX8_boatsAfloat_24 rfl (nI_add _ 1) (by decide) rfl ?_
          refine j_goto (pc := 27) hM 4 dX8_boatsAfloat_27 (by decide) ?_
          refine j_lv (pc := 4) hM [2, 3, 1, 0] rfl ?_
          exact ih4 (i + 1) (x + 1) (by omega) (by rw [hx]; simp only [nfl]; first | (rw [if_pos (by omega)]; done) | (rw [if_neg (by omega), Nat.add_zero])) (by omega)
  refine j_lv (pc := 4) hM [2, 3, 1, 0] rfl ?_
  exact L4 _ 0 0 (by omega) rfl (Nat.lt_succ_self _)
set_option maxHeartbeats 4000000 in
set_option maxRecDepth 100000 in
theorem c_X8_sandsReached (l : Launch) (D : va_G) (cy : ClassId) (o : Nat) (aH : Nat) (aW : Nat) (aD : Nat) (aK : Nat) (aM : Nat) (aA : Nat) (aT : Nat) (aS : Nat) (ns : Nat) (nb : Nat) (na : Nat) (tm : Nat) (sn : Nat) (h : Nat → Nat) (t : Nat) (hn : ns ≤ 8) (hh : ∀ i, i < ns → h i ≤ 9) (ht : t ≤ 30) : Ct (σ := Unit) l D cy yX8_sandsReached cX8_sandsReached 4 (some .int) { frames := 1, cells := 0, slots := 0, locals := 23 } [.ref o, .int (nI t)] [(o, .inr (8, [.ref aH, .ref aW, .ref aD, .ref aK, .ref aM, .ref aA, .ref aT, .ref aS, .int (nI ns), .int (nI nb), .int (nI na), .int (nI tm), .int (nI sn)])), (aH, arC cy 8 h)] (fun _ => True) (fun _ => some (.int (nI (nre h t ns)))) (fun _ => [(o, .inr (8, [.ref aH, .ref aW, .ref aD, .ref aK, .ref aM, .ref aA, .ref aT, .ref aS, .int (nI ns), .int (nI nb), .int (nI na), .int (nI tm), .int (nI sn)])), (aH, arC cy 8 h)]) := by
  refine Ct_ofI (by decide) (lb rfl) [(0, .ref o), (1, .int (nI t))] rfl (fun G hM hret => ?_)
  refine j_iconst (pc := 0) hM (v := nI 0) dX8_sandsReached_0 (by decide) ?_
  refine j_istore_n (pc := 1) hM [(2, .int (nI 0)), (0, .ref o), (1, .int (nI t))] dX8_sandsReached_1 rfl (by decide) rfl ?_
  refine j_iconst (pc := 2) hM (v := nI 0) dX8_sandsReached_2 (by decide) ?_
  refine j_istore_n (pc := 3) hM [(3, .int (nI 0)), (2, .int (nI 0)), (0, .ref o), (1, .int (nI t))] dX8_sandsReached_3 rfl (by decide) rfl ?_
  have L4 : ∀ (n4 : Nat) (i : Nat) (x : Nat), (i ≤ ns) → (x = nre h t i) → (ns - i) < n4 → G [(o, .inr (8, [.ref aH, .ref aW, .ref aD, .ref aK, .ref aM, .ref aA, .ref aT, .ref aS, .int (nI ns), .int (nI nb), .int (nI na), .int (nI tm), .int (nI sn)])), (aH, arC cy 8 h)] [(0, .ref o), (1, .int (nI t)), (2, .int (nI x)), (3, .int (nI i))] 4 [] := by
    intro n4
    induction n4 with
    | zero => intro i x hi hx hm4; exact absurd hm4 (Nat.not_lt_zero _)
    | succ n4 ih4 =>
      intro i x hi hx hm4
      refine j_iload_n (pc := 4) hM dX8_sandsReached_4 rfl 3 rfl ?_
      refine j_aload_n (pc := 5) hM dX8_sandsReached_5 rfl 0 rfl ?_
      refine j_get (pc := 6) hM fd_X8_40 0 rfl rfl dX8_sandsReached_6 ?_
      refine j_icmp_ge (pc := 9) hM 30 dX8_sandsReached_9 (by decide) (cLE (by omega) (by omega)) (fun c9 => ?_) (fun c9 => ?_)
      · skip
        refine j_iload_n (pc := 30) hM dX8_sandsReached_30 rfl 2 rfl ?_
        exact hret () _ _ _ _ trivial rfl (sI (show x = (nre h t ns) from by rw [hx, show i = ns by omega])) rfl dX8_sandsReached_31
      · skip
        refine j_aload_n (pc := 12) hM dX8_sandsReached_12 rfl 0 rfl ?_
        refine j_iload_n (pc := 13) hM dX8_sandsReached_13 rfl 3 rfl ?_
        refine j_iload_n (pc := 14) hM dX8_sandsReached_14 rfl 1 rfl ?_
        refine j_callV (pc := 15) hM cv_X8_84 (As := [.int (nI i), .int (nI t)]) (rest := []) (b := o) (c_X8_reaches l D cy o aH aW aD aK aM aA aT aS ns nb na tm sn h i t hn hh (by first | assumption | omega) ht) ⟨lb rfl, lb rfl, lb rfl, lb rfl⟩ rfl 0 rfl rfl [0, 1] [] [0, 1] [] (fun _ => [(o, .inr (8, [.ref aH, .ref aW, .ref aD, .ref aK, .ref aM, .ref aA, .ref aT, .ref aS, .int (nI ns), .int (nI nb), .int (nI na), .int (nI tm), .int (nI sn)])), (aH, arC cy 8 h)]) rfl (by decide) rfl (by decide) (by decide) (by decide) (fun _ => rfl) (lb rfl) dX8_sandsReached_15 hM.two (fun _ _ => ?_)
        show G [(o, .inr (8, [.ref aH, .ref aW, .ref aD, .ref aK, .ref aM, .ref aA, .ref aT, .ref aS, .int (nI ns), .int (nI nb), .int (nI na), .int (nI tm), .int (nI sn)])), (aH, arC cy 8 h)] [(0, .ref o), (1, .int (nI t)), (2, .int (nI x)), (3, .int (nI i))] 18 [.int (nI (if mx h (i + 1) < t then 1 else 0))]
        refine j_if_eqB (pc := 18) (P := (mx h (i + 1) < t)) hM 24 dX8_sandsReached_18 (by decide) b0_eq (fun c18 => ?_) (fun c18 => ?_)
        · skip
          refine j_iinc (pc := 24) hM (n' := 3) [(3, .int (nI (i + 1))), (0, .ref o), (1, .int (nI t)), (2, .int (nI x))] dX8_sandsReached_24 rfl (nI_add _ 1) (by decide) rfl ?_
          refine j_goto (pc := 27) hM 4 dX8_sandsReached_27 (by decide) ?_
          refine j_lv (pc := 4) hM [1, 2, 3, 0] rfl ?_
          exact ih4 (i + 1) x (by omega) (by rw [hx]; simp [nre, c18]) (by omega)
        · skip
          refine j_iinc (pc := 21) hM (n' := 2) [(2, .int (nI (x + 1))), (0, .ref o), (1, .int (nI t)), (3, .int (nI i))] dX8_sandsReached_21 rfl (nI_add _ 1) (by decide) rfl ?_
          refine j_iinc (pc := 24) hM (n' := 3) [(3, .int (nI (i + 1))), (2, .int (nI (x + 1))), (0, .ref o), (1, .int (nI t))] dX8_sandsReached_24 rfl (nI_add _ 1) (by decide) rfl ?_
          refine j_goto (pc := 27) hM 4 dX8_sandsReached_27 (by decide) ?_
          refine j_lv (pc := 4) hM [2, 3, 1, 0] rfl ?_
          exact ih4 (i + 1) (x + 1) (by omega) (by rw [hx]; simp [nre, c18]) (by omega)
  refine j_lv (pc := 4) hM [2, 3, 1, 0] rfl ?_
  exact L4 _ 0 0 (by omega) rfl (Nat.lt_succ_self _)
set_option maxHeartbeats 4000000 in
set_option maxRecDepth 100000 in
theorem c_X8_keepSeen (l : Launch) (D : va_G) (cy : ClassId) (o : Nat) (aH : Nat) (aW : Nat) (aD : Nat) (aK : Nat) (aM : Nat) (aA : Nat) (aT : Nat) (aS : Nat) (ns : Nat) (nb : Nat) (na : Nat) (tm : Nat) (sn : Nat) (fA : Nat → Nat) (fT : Nat → Nat) (a : Nat) (t : Nat) (hsn : sn ≤ 6) : Ct (σ := Unit) l D cy yX8_keepSeen cX8_keepSeen 3 (some .boolean) { frames := 0, cells := 0, slots := 0, locals := 0 } [.ref o, .int (nI a), .int (nI t)] [(o, .inr (8, [.ref aH, .ref aW, .ref aD, .ref aK, .ref aM, .ref aA, .ref aT, .ref aS, .int (nI ns), .int (nI nb), .int (nI na), .int (nI tm), .int (nI sn)])), (aA, arC cy 6 fA), (aT, arC cy 6 fT)] (fun _ => True) (fun _ => some (.int (nI (if sn < 6 then 1 else 0)))) (fun _ => [(o, .inr (8, [.ref aH, .ref aW, .ref aD, .ref aK, .ref aM, .ref aA, .ref aT, .ref aS, .int (nI ns), .int (nI nb), .int (nI na), .int (nI tm), .int (nI (if sn < 6 then sn + 1 else sn))])), (aA, arC cy 6 (if sn < 6 then va_up fA sn a else fA)), (aT, arC cy 6 (if sn < 6 then va_up fT sn t else fT))]) := by
  refine Ct_ofI (by decide) (lb rfl) [(0, .ref o), (1, .int (nI a)), (2, .int (nI t))] rfl (fun G hM hret => ?_)
  refine j_aload_n (pc := 0) hM dX8_keepSeen_0 rfl 0 rfl ?_
  refine j_get (pc := 1) hM fd_X8_53 0 rfl rfl dX8_keepSeen_1 ?_
  refine j_if_lt (pc := 4) hM 16 dX8_keepSeen_4 (by decide) (i0_lt (by omega)) (fun c4 => ?_) (fun c4 => ?_)
  · skip
    exact c4.elim
  · skip
    refine j_aload_n (pc := 7) hM dX8_keepSeen_7 rfl 0 rfl ?_
    refine j_get (pc := 8) hM fd_X8_53 0 rfl rfl dX8_keepSeen_8 ?_
    refine j_bipush (pc := 11) hM (v := nI 6) dX8_keepSeen_11 (by decide) ?_
    refine j_icmp_lt (pc := 13) hM 18 dX8_keepSeen_13 (by decide) (cLT (by omega) (by omega)) (fun c13 => ?_) (fun c13 => ?_)
    · skip
      refine j_aload_n (pc := 18) hM dX8_keepSeen_18 rfl 0 rfl ?_
      refine j_get (pc := 19) hM fd_X8_27 0 rfl rfl dX8_keepSeen_19 ?_
      refine j_aload_n (pc := 22) hM dX8_keepSeen_22 rfl 0 rfl ?_
      refine j_get (pc := 23) hM fd_X8_53 0 rfl rfl dX8_keepSeen_23 ?_
      refine j_iload_n (pc := 26) hM dX8_keepSeen_26 rfl 1 rfl ?_
      refine j_stN (pc := 27) hM [(o, .inr (8, [.ref aH, .ref aW, .ref aD, .ref aK, .ref aM, .ref aA, .ref aT, .ref aS, .int (nI ns), .int (nI nb), .int (nI na), .int (nI tm), .int (nI sn)])), (aA, arC cy 6 (va_up fA sn a)), (aT, arC cy 6 fT)] 1 rfl (by omega) (by decide) rfl dX8_keepSeen_27 ?_
      refine j_aload_n (pc := 28) hM dX8_keepSeen_28 rfl 0 rfl ?_
      refine j_get (pc := 29) hM fd_X8_30 0 rfl rfl dX8_keepSeen_29 ?_
      refine j_aload_n (pc := 32) hM dX8_keepSeen_32 rfl 0 rfl ?_
      refine j_get (pc := 33) hM fd_X8_53 0 rfl rfl dX8_keepSeen_33 ?_
      refine j_iload_n (pc := 36) hM dX8_keepSeen_36 rfl 2 rfl ?_
      refine j_stN (pc := 37) hM [(o, .inr (8, [.ref aH, .ref aW, .ref aD, .ref aK, .ref aM, .ref aA, .ref aT, .ref aS, .int (nI ns), .int (nI nb), .int (nI na), .int (nI tm), .int (nI sn)])), (aA, arC cy 6 (va_up fA sn a)), (aT, arC cy 6 (va_up fT sn t))] 2 rfl (by omega) (by decide) rfl dX8_keepSeen_37 ?_
      refine j_aload_n (pc := 38) hM dX8_keepSeen_38 rfl 0 rfl ?_
      refine j_dup (pc := 39) hM dX8_keepSeen_39 rfl ?_
      refine j_get (pc := 40) hM fd_X8_53 0 rfl rfl dX8_keepSeen_40 ?_
      refine j_iconst (pc := 43) hM (v := nI 1) dX8_keepSeen_43 (by decide) ?_
      refine j_iadd (pc := 44) hM (v := nI (sn + 1)) dX8_keepSeen_44 (nI_add _ _) ?_
      refine j_put (pc := 45) hM fp_X8_53 [(o, .inr (8, [.ref aH, .ref aW, .ref aD, .ref aK, .ref aM, .ref aA, .ref aT, .ref aS, .int (nI ns), .int (nI nb), .int (nI na), .int (nI tm), .int (nI (sn + 1))])), (aA, arC cy 6 (va_up fA sn a)), (aT, arC cy 6 (va_up fT sn t))] 0 rfl (lb rfl) rfl rfl rfl dX8_keepSeen_45 ?_
      refine j_iconst (pc := 48) hM (v := nI 1) dX8_keepSeen_48 (by decide) ?_
      exact hret () _ _ _ _ trivial (eq3 (fun (z0 : Nat) (z1 : Nat → Nat) (z2 : Nat → Nat) => ([(o, .inr (8, [.ref aH, .ref aW, .ref aD, .ref aK, .ref aM, .ref aA, .ref aT, .ref aS, .int (nI ns), .int (nI nb), .int (nI na), .int (nI tm), .int (nI z0)])), (aA, arC cy 6 z1), (aT, arC cy 6 z2)] : va_W)) (show (sn + 1) = (if sn < 6 then sn + 1 else sn) from by simp [c13]) (show (va_up fA sn a) = (if sn < 6 then va_up fA sn a else fA) from by simp [c13]) (show (va_up fT sn t) = (if sn < 6 then va_up fT sn t else fT) from by simp [c13])) (sI (show 1 = (if sn < 6 then 1 else 0) from by simp [c13])) rfl dX8_keepSeen_49
    · skip
      refine j_iconst (pc := 16) hM (v := nI 0) dX8_keepSeen_16 (by decide) ?_
      exact hret () _ _ _ _ trivial (eq3 (fun (z0 : Nat) (z1 : Nat → Nat) (z2 : Nat → Nat) => ([(o, .inr (8, [.ref aH, .ref aW, .ref aD, .ref aK, .ref aM, .ref aA, .ref aT, .ref aS, .int (nI ns), .int (nI nb), .int (nI na), .int (nI tm), .int (nI z0)])), (aA, arC cy 6 z1), (aT, arC cy 6 z2)] : va_W)) (show sn = (if sn < 6 then sn + 1 else sn) from by simp [c13]) (show fA = (if sn < 6 then va_up fA sn a else fA) from by simp [c13]) (show fT = (if sn < 6 then va_up fT sn t else fT) from by simp [c13])) (sI (show 0 = (if sn < 6 then 1 else 0) from by simp [c13])) rfl dX8_keepSeen_17
set_option maxHeartbeats 4000000 in
set_option maxRecDepth 100000 in
theorem c_X8_agreesWithSeen (l : Launch) (D : va_G) (cy : ClassId) (o : Nat) (aH : Nat) (aW : Nat) (aD : Nat) (aK : Nat) (aM : Nat) (aA : Nat) (aT : Nat) (aS : Nat) (ns : Nat) (nb : Nat) (na : Nat) (tm : Nat) (sn : Nat) (fA : Nat → Nat) (fT : Nat → Nat) (a : Nat) (t : Nat) (hsn : sn ≤ 6) (hA : ∀ i, i < sn → fA i < 5) (hT : ∀ i, i < sn → fT i ≤ 20) (ha : a < 5) (ht : t ≤ 20) : Ct (σ := Unit) l D cy yX8_agreesWithSeen cX8_agreesWithSeen 4 (some .boolean) { frames := 0, cells := 0, slots := 0, locals := 0 } [.ref o, .int (nI a), .int (nI t)] [(o, .inr (8, [.ref aH, .ref aW, .ref aD, .ref aK, .ref aM, .ref aA, .ref aT, .ref aS, .int (nI ns), .int (nI nb), .int (nI na), .int (nI tm), .int (nI sn)])), (aA, arC cy 6 fA), (aT, arC cy 6 fT)] (fun _ => True) (fun _ => some (.int (nI (if agr fA fT a t sn then 1 else 0)))) (fun _ => [(o, .inr (8, [.ref aH, .ref aW, .ref aD, .ref aK, .ref aM, .ref aA, .ref aT, .ref aS, .int (nI ns), .int (nI nb), .int (nI na), .int (nI tm), .int (nI sn)])), (aA, arC cy 6 fA), (aT, arC cy 6 fT)]) := by
  refine Ct_ofI (by decide) (lb rfl) [(0, .ref o), (1, .int (nI a)), (2, .int (nI t))] rfl (fun G hM hret => ?_)
  refine j_iconst (pc := 0) hM (v := nI 0) dX8_agreesWithSeen_0 (by decide) ?_
  refine j_istore_n (pc := 1) hM [(3, .int (nI 0)), (0, .ref o), (1, .int (nI a)), (2, .int (nI t))] dX8_agreesWithSeen_1 rfl (by decide) rfl ?_
  have L2 : ∀ (n2 : Nat) (i : Nat), (i ≤ sn) → (agr fA fT a t i) → (sn - i) < n2 → G [(o, .inr (8, [.ref aH, .ref aW, .ref aD, .ref aK, .ref aM, .ref aA, .ref aT, .ref aS, .int (nI ns), .int (nI nb), .int (nI na), .int (nI tm), .int (nI sn)])), (aA, arC cy 6 fA), (aT, arC cy 6 fT)] [(0, .ref o), (1, .int (nI a)), (2, .int (nI t)), (3, .int (nI i))] 2 [] := by
    intro n2
    induction n2 with
    | zero => intro i hi hx hm2; exact absurd hm2 (Nat.not_lt_zero _)
    | succ n2 ih2 =>
      intro i hi hx hm2
      refine j_iload_n (pc := 2) hM dX8_agreesWithSeen_2 rfl 3 rfl ?_
      refine j_aload_n (pc := 3) hM dX8_agreesWithSeen_3 rfl 0 rfl ?_
      refine j_get (pc := 4) hM fd_X8_53 0 rfl rfl dX8_agreesWithSeen_4 ?_
      refine j_icmp_ge (pc := 7) hM 38 dX8_agreesWithSeen_7 (by decide) (cLE (by omega) (by omega)) (fun c7 => ?_) (fun c7 => ?_)
      · skip
        refine j_iconst (pc := 38) hM (v := nI 1) dX8_agreesWithSeen_38 (by decide) ?_
        exact hret () _ _ _ _ trivial rfl (sI (show 1 = (if agr fA fT a t sn then 1 else 0) from by rw [if_pos (by rw [show sn = i by omega]; exact hx)])) rfl dX8_agreesWithSeen_39
      · skip
        refine j_aload_n (pc := 10) hM dX8_agreesWithSeen_10 rfl 0 rfl ?_
        refine j_get (pc := 11) hM fd_X8_27 0 rfl rfl dX8_agreesWithSeen_11 ?_
        refine j_iload_n (pc := 14) hM dX8_agreesWithSeen_14 rfl 3 rfl ?_
        refine j_ldN (pc := 15) hM (v := fA i) 1 rfl (by omega) (by decide) rfl dX8_agreesWithSeen_15 ?_
        have b15 := hA i (by omega)
        refine j_iload_n (pc := 16) hM dX8_agreesWithSeen_16 rfl 1 rfl ?_
        refine j_icmp_ne (pc := 17) hM 32 dX8_agreesWithSeen_17 (by decide) (cEQ (by omega) (by omega)) (fun c17 => ?_) (fun c17 => ?_)
        · skip
          refine j_iinc (pc := 32) hM (n' := 3) [(3, .int (nI (i + 1))), (0, .ref o), (1, .int (nI a)), (2, .int (nI t))] dX8_agreesWithSeen_32 rfl (nI_add _ 1) (by decide) rfl ?_
          refine j_goto (pc := 35) hM 2 dX8_agreesWithSeen_35 (by decide) ?_
          refine j_lv (pc := 2) hM [1, 2, 3, 0] rfl ?_
          exact ih2 (i + 1) (by omega) (fun j hj hq => by rcases Nat.lt_or_ge j i with z | z; exact hx j z hq; have e : j = i := (by omega); subst e; first | exact absurd hq c17 | exact c27) (by omega)
        · skip
          refine j_aload_n (pc := 20) hM dX8_agreesWithSeen_20 rfl 0 rfl ?_
          refine j_get (pc := 21) hM fd_X8_30 0 rfl rfl dX8_agreesWithSeen_21 ?_
          refine j_iload_n (pc := 24) hM dX8_agreesWithSeen_24 rfl 3 rfl ?_
          refine j_ldN (pc := 25) hM (v := fT i) 2 rfl (by omega) (by decide) rfl dX8_agreesWithSeen_25 ?_
          have b25 := hT i (by omega)
          refine j_iload_n (pc := 26) hM dX8_agreesWithSeen_26 rfl 2 rfl ?_
          refine j_icmp_eq (pc := 27) hM 32 dX8_agreesWithSeen_27 (by decide) (cEQ (by omega) (by omega)) (fun c27 => ?_) (fun c27 => ?_)
          · skip
            refine j_iinc (pc := 32) hM (n' := 3) [(3, .int (nI (i + 1))), (0, .ref o), (1, .int (nI a)), (2, .int (nI t))] dX8_agreesWithSeen_32 rfl (nI_add _ 1) (by decide) rfl ?_
            refine j_goto (pc := 35) hM 2 dX8_agreesWithSeen_35 (by decide) ?_
            refine j_lv (pc := 2) hM [1, 2, 3, 0] rfl ?_
            exact ih2 (i + 1) (by omega) (fun j hj hq => by rcases Nat.lt_or_ge j i with z | z; exact hx j z hq; have e : j = i := (by omega); subst e; first | exact absurd hq c17 | exact c27) (by omega)
          · skip
            refine j_iconst (pc := 30) hM (v := nI 0) dX8_agreesWithSeen_30 (by decide) ?_
            exact hret () _ _ _ _ trivial rfl (sI (show 0 = (if agr fA fT a t sn then 1 else 0) from by rw [if_neg (fun q => c27 (q i (by omega) c17))])) rfl dX8_agreesWithSeen_31
  refine j_lv (pc := 2) hM [1, 2, 3, 0] rfl ?_
  exact L2 _ 0 (by omega) (fun j hj => absurd hj (Nat.not_lt_zero j)) (Nat.lt_succ_self _)
set_option maxHeartbeats 4000000 in
set_option maxRecDepth 100000 in
theorem c_X8_become (l : Launch) (D : va_G) (cy : ClassId) (o : Nat) (aH : Nat) (aW : Nat) (aD : Nat) (aK : Nat) (aM : Nat) (aA : Nat) (aT : Nat) (aS : Nat) (o2 : Nat) (bH : Nat) (bW : Nat) (bD : Nat) (bK : Nat) (bM : Nat) (bA : Nat) (bT : Nat) (bS : Nat) (ns0 : Nat) (nb0 : Nat) (na0 : Nat) (tm0 : Nat) (sn0 : Nat) (ns : Nat) (nb : Nat) (na : Nat) (tm : Nat) (sn : Nat) (h0 : Nat → Nat) (w0 : Nat → Nat) (d0 : Nat → Nat) (k0 : Nat → Nat) (m0 : Nat → Nat) (fA0 : Nat → Nat) (fT0 : Nat → Nat) (h : Nat → Nat) (w : Nat → Nat) (d : Nat → Nat) (k : Nat → Nat) (m : Nat → Nat) (fA : Nat → Nat) (fT : Nat → Nat) (s0 : S3) (s : S3) (oks : okS s) : Ct (σ := Unit) l D cy yX8_become cX8_become 2 none { frames := 1, cells := 0, slots := 0, locals := 40 } [.ref o, .ref o2] [(o, .inr (8, [.ref aH, .ref aW, .ref aD, .ref aK, .ref aM, .ref aA, .ref aT, .ref aS, .int (nI ns0), .int (nI nb0), .int (nI na0), .int (nI tm0), .int (nI sn0)])), (aH, arC cy 8 h0), (aW, arC cy 3 w0), (aD, arC cy 3 d0), (aK, arC cy 5 k0), (aM, arC cy 5 m0), (aA, arC cy 6 fA0), (aT, arC cy 6 fT0), (aS, .inr (6, [.int (nI s0.1), .int (nI s0.2.1), .int (nI s0.2.2)])), (o2, .inr (8, [.ref bH, .ref bW, .ref bD, .ref bK, .ref bM, .ref bA, .ref bT, .ref bS, .int (nI ns), .int (nI nb), .int (nI na), .int (nI tm), .int (nI sn)])), (bH, arC cy 8 h), (bW, arC cy 3 w), (bD, arC cy 3 d), (bK, arC cy 5 k), (bM, arC cy 5 m), (bA, arC cy 6 fA), (bT, arC cy 6 fT), (bS, .inr (6, [.int (nI s.1), .int (nI s.2.1), .int (nI s.2.2)]))] (fun _ => True) (fun _ => none) (fun _ => [(o, .inr (8, [.ref aH, .ref aW, .ref aD, .ref aK, .ref aM, .ref aA, .ref aT, .ref aS, .int (nI ns), .int (nI nb), .int (nI na), .int (nI tm), .int (nI sn)])), (aH, arC cy 8 h), (aW, arC cy 3 w), (aD, arC cy 3 d), (aK, arC cy 5 k), (aM, arC cy 5 m), (aA, arC cy 6 fA), (aT, arC cy 6 fT), (aS, .inr (6, [.int (nI s.1), .int (nI s.2.1), .int (nI s.2.2)])), (o2, .inr (8, [.ref bH, .ref bW, .ref bD, .ref bK, .ref bM, .ref bA, .ref bT, .ref bS, .int (nI ns), .int (nI nb), .int (nI na), .int (nI tm), .int (nI sn)])), (bH, arC cy 8 h), (bW, arC cy 3 w), (bD, arC cy 3 d), (bK, arC cy 5 k), (bM, arC cy 5 m), (bA, arC cy 6 fA), (bT, arC cy 6 fT), (bS, .inr (6, [.int (nI s.1), .int (nI s.2.1), .int (nI s.2.2)]))]) := by
  refine Ct_ofV (by decide) (lb rfl) [(0, .ref o), (1, .ref o2)] rfl (fun G hM hret => ?_)
  refine j_aload_n (pc := 0) hM dX8_become_0 rfl 1 rfl ?_
  refine j_get (pc := 1) hM fd_X8_9 9 rfl rfl dX8_become_1 ?_
  refine j_iconst (pc := 4) hM (v := nI 0) dX8_become_4 (by decide) ?_
  refine j_aload_n (pc := 5) hM dX8_become_5 rfl 0 rfl ?_
  refine j_get (pc := 6) hM fd_X8_9 0 rfl rfl dX8_become_6 ?_
  refine j_iconst (pc := 9) hM (v := nI 0) dX8_become_9 (by decide) ?_
  refine j_bipush (pc := 10) hM (v := nI 8) dX8_become_10 (by decide) ?_
  refine j_cpN (pc := 12) hM ml_X8_56 mw_copy [(o, .inr (8, [.ref aH, .ref aW, .ref aD, .ref aK, .ref aM, .ref aA, .ref aT, .ref aS, .int (nI ns0), .int (nI nb0), .int (nI na0), .int (nI tm0), .int (nI sn0)])), (aH, arC cy 8 h), (aW, arC cy 3 w0), (aD, arC cy 3 d0), (aK, arC cy 5 k0), (aM, arC cy 5 m0), (aA, arC cy 6 fA0), (aT, arC cy 6 fT0), (aS, .inr (6, [.int (nI s0.1), .int (nI s0.2.1), .int (nI s0.2.2)])), (o2, .inr (8, [.ref bH, .ref bW, .ref bD, .ref bK, .ref bM, .ref bA, .ref bT, .ref bS, .int (nI ns), .int (nI nb), .int (nI na), .int (nI tm), .int (nI sn)])), (bH, arC cy 8 h), (bW, arC cy 3 w), (bD, arC cy 3 d), (bK, arC cy 5 k), (bM, arC cy 5 m), (bA, arC cy 6 fA), (bT, arC cy 6 fT), (bS, .inr (6, [.int (nI s.1), .int (nI s.2.1), .int (nI s.2.2)]))] 10 1 rfl rfl (by decide) ⟨lb rfl, lb rfl⟩ rfl dX8_become_12 ?_
  refine j_aload_n (pc := 15) hM dX8_become_15 rfl 1 rfl ?_
  refine j_get (pc := 16) hM fd_X8_15 9 rfl rfl dX8_become_16 ?_
  refine j_iconst (pc := 19) hM (v := nI 0) dX8_become_19 (by decide) ?_
  refine j_aload_n (pc := 20) hM dX8_become_20 rfl 0 rfl ?_
  refine j_get (pc := 21) hM fd_X8_15 0 rfl rfl dX8_become_21 ?_
  refine j_iconst (pc := 24) hM (v := nI 0) dX8_become_24 (by decide) ?_
  refine j_iconst (pc := 25) hM (v := nI 3) dX8_become_25 (by decide) ?_
  refine j_cpN (pc := 26) hM ml_X8_56 mw_copy [(o, .inr (8, [.ref aH, .ref aW, .ref aD, .ref aK, .ref aM, .ref aA, .ref aT, .ref aS, .int (nI ns0), .int (nI nb0), .int (nI na0), .int (nI tm0), .int (nI sn0)])), (aH, arC cy 8 h), (aW, arC cy 3 w), (aD, arC cy 3 d0), (aK, arC cy 5 k0), (aM, arC cy 5 m0), (aA, arC cy 6 fA0), (aT, arC cy 6 fT0), (aS, .inr (6, [.int (nI s0.1), .int (nI s0.2.1), .int (nI s0.2.2)])), (o2, .inr (8, [.ref bH, .ref bW, .ref bD, .ref bK, .ref bM, .ref bA, .ref bT, .ref bS, .int (nI ns), .int (nI nb), .int (nI na), .int (nI tm), .int (nI sn)])), (bH, arC cy 8 h), (bW, arC cy 3 w), (bD, arC cy 3 d), (bK, arC cy 5 k), (bM, arC cy 5 m), (bA, arC cy 6 fA), (bT, arC cy 6 fT), (bS, .inr (6, [.int (nI s.1), .int (nI s.2.1), .int (nI s.2.2)]))] 11 2 rfl rfl (by decide) ⟨lb rfl, lb rfl⟩ rfl dX8_become_26 ?_
  refine j_aload_n (pc := 29) hM dX8_become_29 rfl 1 rfl ?_
  refine j_get (pc := 30) hM fd_X8_18 9 rfl rfl dX8_become_30 ?_
  refine j_iconst (pc := 33) hM (v := nI 0) dX8_become_33 (by decide) ?_
  refine j_aload_n (pc := 34) hM dX8_become_34 rfl 0 rfl ?_
  refine j_get (pc := 35) hM fd_X8_18 0 rfl rfl dX8_become_35 ?_
  refine j_iconst (pc := 38) hM (v := nI 0) dX8_become_38 (by decide) ?_
  refine j_iconst (pc := 39) hM (v := nI 3) dX8_become_39 (by decide) ?_
  refine j_cpN (pc := 40) hM ml_X8_56 mw_copy [(o, .inr (8, [.ref aH, .ref aW, .ref aD, .ref aK, .ref aM, .ref aA, .ref aT, .ref aS, .int (nI ns0), .int (nI nb0), .int (nI na0), .int (nI tm0), .int (nI sn0)])), (aH, arC cy 8 h), (aW, arC cy 3 w), (aD, arC cy 3 d), (aK, arC cy 5 k0), (aM, arC cy 5 m0), (aA, arC cy 6 fA0), (aT, arC cy 6 fT0), (aS, .inr (6, [.int (nI s0.1), .int (nI s0.2.1), .int (nI s0.2.2)])), (o2, .inr (8, [.ref bH, .ref bW, .ref bD, .ref bK, .ref bM, .ref bA, .ref bT, .ref bS, .int (nI ns), .int (nI nb), .int (nI na), .int (nI tm), .int (nI sn)])), (bH, arC cy 8 h), (bW, arC cy 3 w), (bD, arC cy 3 d), (bK, arC cy 5 k), (bM, arC cy 5 m), (bA, arC cy 6 fA), (bT, arC cy 6 fT), (bS, .inr (6, [.int (nI s.1), .int (nI s.2.1), .int (nI s.2.2)]))] 12 3 rfl rfl (by decide) ⟨lb rfl, lb rfl⟩ rfl dX8_become_40 ?_
  refine j_aload_n (pc := 43) hM dX8_become_43 rfl 1 rfl ?_
  refine j_get (pc := 44) hM fd_X8_21 9 rfl rfl dX8_become_44 ?_
  refine j_iconst (pc := 47) hM (v := nI 0) dX8_become_47 (by decide) ?_
  refine j_aload_n (pc := 48) hM dX8_become_48 rfl 0 rfl ?_
  refine j_get (pc := 49) hM fd_X8_21 0 rfl rfl dX8_become_49 ?_
  refine j_iconst (pc := 52) hM (v := nI 0) dX8_become_52 (by decide) ?_
  refine j_iconst (pc := 53) hM (v := nI 5) dX8_become_53 (by decide) ?_
  refine j_cpN (pc := 54) hM ml_X8_56 mw_copy [(o, .inr (8, [.ref aH, .ref aW, .ref aD, .ref aK, .ref aM, .ref aA, .ref aT, .ref aS, .int (nI ns0), .int (nI nb0), .int (nI na0), .int (nI tm0), .int (nI sn0)])), (aH, arC cy 8 h), (aW, arC cy 3 w), (aD, arC cy 3 d), (aK, arC cy 5 k), (aM, arC cy 5 m0), (aA, arC cy 6 fA0), (aT, arC cy 6 fT0), (aS, .inr (6, [.int (nI s0.1), .int (nI s0.2.1), .int (nI s0.2.2)])), (o2, .inr (8, [.ref bH, .ref bW, .ref bD, .ref bK, .ref bM, .ref bA, .ref bT, .ref bS, .int (nI ns), .int (nI nb), .int (nI na), .int (nI tm), .int (nI sn)])), (bH, arC cy 8 h), (bW, arC cy 3 w), (bD, arC cy 3 d), (bK, arC cy 5 k), (bM, arC cy 5 m), (bA, arC cy 6 fA), (bT, arC cy 6 fT), (bS, .inr (6, [.int (nI s.1), .int (nI s.2.1), .int (nI s.2.2)]))] 13 4 rfl rfl (by decide) ⟨lb rfl, lb rfl⟩ rfl dX8_become_54 ?_
  refine j_aload_n (pc := 57) hM dX8_become_57 rfl 1 rfl ?_
  refine j_get (pc := 58) hM fd_X8_24 9 rfl rfl dX8_become_58 ?_
  refine j_iconst (pc := 61) hM (v := nI 0) dX8_become_61 (by decide) ?_
  refine j_aload_n (pc := 62) hM dX8_become_62 rfl 0 rfl ?_
  refine j_get (pc := 63) hM fd_X8_24 0 rfl rfl dX8_become_63 ?_
  refine j_iconst (pc := 66) hM (v := nI 0) dX8_become_66 (by decide) ?_
  refine j_iconst (pc := 67) hM (v := nI 5) dX8_become_67 (by decide) ?_
  refine j_cpN (pc := 68) hM ml_X8_56 mw_copy [(o, .inr (8, [.ref aH, .ref aW, .ref aD, .ref aK, .ref aM, .ref aA, .ref aT, .ref aS, .int (nI ns0), .int (nI nb0), .int (nI na0), .int (nI tm0), .int (nI sn0)])), (aH, arC cy 8 h), (aW, arC cy 3 w), (aD, arC cy 3 d), (aK, arC cy 5 k), (aM, arC cy 5 m), (aA, arC cy 6 fA0), (aT, arC cy 6 fT0), (aS, .inr (6, [.int (nI s0.1), .int (nI s0.2.1), .int (nI s0.2.2)])), (o2, .inr (8, [.ref bH, .ref bW, .ref bD, .ref bK, .ref bM, .ref bA, .ref bT, .ref bS, .int (nI ns), .int (nI nb), .int (nI na), .int (nI tm), .int (nI sn)])), (bH, arC cy 8 h), (bW, arC cy 3 w), (bD, arC cy 3 d), (bK, arC cy 5 k), (bM, arC cy 5 m), (bA, arC cy 6 fA), (bT, arC cy 6 fT), (bS, .inr (6, [.int (nI s.1), .int (nI s.2.1), .int (nI s.2.2)]))] 14 5 rfl rfl (by decide) ⟨lb rfl, lb rfl⟩ rfl dX8_become_68 ?_
  refine j_aload_n (pc := 71) hM dX8_become_71 rfl 1 rfl ?_
  refine j_get (pc := 72) hM fd_X8_27 9 rfl rfl dX8_become_72 ?_
  refine j_iconst (pc := 75) hM (v := nI 0) dX8_become_75 (by decide) ?_
  refine j_aload_n (pc := 76) hM dX8_become_76 rfl 0 rfl ?_
  refine j_get (pc := 77) hM fd_X8_27 0 rfl rfl dX8_become_77 ?_
  refine j_iconst (pc := 80) hM (v := nI 0) dX8_become_80 (by decide) ?_
  refine j_bipush (pc := 81) hM (v := nI 6) dX8_become_81 (by decide) ?_
  refine j_cpN (pc := 83) hM ml_X8_56 mw_copy [(o, .inr (8, [.ref aH, .ref aW, .ref aD, .ref aK, .ref aM, .ref aA, .ref aT, .ref aS, .int (nI ns0), .int (nI nb0), .int (nI na0), .int (nI tm0), .int (nI sn0)])), (aH, arC cy 8 h), (aW, arC cy 3 w), (aD, arC cy 3 d), (aK, arC cy 5 k), (aM, arC cy 5 m), (aA, arC cy 6 fA), (aT, arC cy 6 fT0), (aS, .inr (6, [.int (nI s0.1), .int (nI s0.2.1), .int (nI s0.2.2)])), (o2, .inr (8, [.ref bH, .ref bW, .ref bD, .ref bK, .ref bM, .ref bA, .ref bT, .ref bS, .int (nI ns), .int (nI nb), .int (nI na), .int (nI tm), .int (nI sn)])), (bH, arC cy 8 h), (bW, arC cy 3 w), (bD, arC cy 3 d), (bK, arC cy 5 k), (bM, arC cy 5 m), (bA, arC cy 6 fA), (bT, arC cy 6 fT), (bS, .inr (6, [.int (nI s.1), .int (nI s.2.1), .int (nI s.2.2)]))] 15 6 rfl rfl (by decide) ⟨lb rfl, lb rfl⟩ rfl dX8_become_83 ?_
  refine j_aload_n (pc := 86) hM dX8_become_86 rfl 1 rfl ?_
  refine j_get (pc := 87) hM fd_X8_30 9 rfl rfl dX8_become_87 ?_
  refine j_iconst (pc := 90) hM (v := nI 0) dX8_become_90 (by decide) ?_
  refine j_aload_n (pc := 91) hM dX8_become_91 rfl 0 rfl ?_
  refine j_get (pc := 92) hM fd_X8_30 0 rfl rfl dX8_become_92 ?_
  refine j_iconst (pc := 95) hM (v := nI 0) dX8_become_95 (by decide) ?_
  refine j_bipush (pc := 96) hM (v := nI 6) dX8_become_96 (by decide) ?_
  refine j_cpN (pc := 98) hM ml_X8_56 mw_copy [(o, .inr (8, [.ref aH, .ref aW, .ref aD, .ref aK, .ref aM, .ref aA, .ref aT, .ref aS, .int (nI ns0), .int (nI nb0), .int (nI na0), .int (nI tm0), .int (nI sn0)])), (aH, arC cy 8 h), (aW, arC cy 3 w), (aD, arC cy 3 d), (aK, arC cy 5 k), (aM, arC cy 5 m), (aA, arC cy 6 fA), (aT, arC cy 6 fT), (aS, .inr (6, [.int (nI s0.1), .int (nI s0.2.1), .int (nI s0.2.2)])), (o2, .inr (8, [.ref bH, .ref bW, .ref bD, .ref bK, .ref bM, .ref bA, .ref bT, .ref bS, .int (nI ns), .int (nI nb), .int (nI na), .int (nI tm), .int (nI sn)])), (bH, arC cy 8 h), (bW, arC cy 3 w), (bD, arC cy 3 d), (bK, arC cy 5 k), (bM, arC cy 5 m), (bA, arC cy 6 fA), (bT, arC cy 6 fT), (bS, .inr (6, [.int (nI s.1), .int (nI s.2.1), .int (nI s.2.2)]))] 16 7 rfl rfl (by decide) ⟨lb rfl, lb rfl⟩ rfl dX8_become_98 ?_
  refine j_aload_n (pc := 101) hM dX8_become_101 rfl 0 rfl ?_
  refine j_get (pc := 102) hM fd_X8_36 0 rfl rfl dX8_become_102 ?_
  refine j_aload_n (pc := 105) hM dX8_become_105 rfl 1 rfl ?_
  refine j_get (pc := 106) hM fd_X8_36 9 rfl rfl dX8_become_106 ?_
  refine j_callV (pc := 109) hM cv_X8_62 (As := [.ref bS]) (rest := []) (b := aS) (c_X6_become l D cy aS bS s0 s (by first | assumption | omega)) ⟨lb rfl, lb rfl, lb rfl, lb rfl⟩ rfl 8 rfl rfl [8, 17] [0, 1, 2, 3, 4, 5, 6, 7, 9, 10, 11, 12, 13, 14, 15, 16] [0, 1, 2, 3, 4, 5, 6, 7, 16, 8, 9, 10, 11, 12, 13, 14, 15, 17] [(o, .inr (8, [.ref aH, .ref aW, .ref aD, .ref aK, .ref aM, .ref aA, .ref aT, .ref aS, .int (nI ns0), .int (nI nb0), .int (nI na0), .int (nI tm0), .int (nI sn0)])), (aH, arC cy 8 h), (aW, arC cy 3 w), (aD, arC cy 3 d), (aK, arC cy 5 k), (aM, arC cy 5 m), (aA, arC cy 6 fA), (aT, arC cy 6 fT), (o2, .inr (8, [.ref bH, .ref bW, .ref bD, .ref bK, .ref bM, .ref bA, .ref bT, .ref bS, .int (nI ns), .int (nI nb), .int (nI na), .int (nI tm), .int (nI sn)])), (bH, arC cy 8 h), (bW, arC cy 3 w), (bD, arC cy 3 d), (bK, arC cy 5 k), (bM, arC cy 5 m), (bA, arC cy 6 fA), (bT, arC cy 6 fT)] (fun _ => [(o, .inr (8, [.ref aH, .ref aW, .ref aD, .ref aK, .ref aM, .ref aA, .ref aT, .ref aS, .int (nI ns0), .int (nI nb0), .int (nI na0), .int (nI tm0), .int (nI sn0)])), (aH, arC cy 8 h), (aW, arC cy 3 w), (aD, arC cy 3 d), (aK, arC cy 5 k), (aM, arC cy 5 m), (aA, arC cy 6 fA), (aT, arC cy 6 fT), (aS, .inr (6, [.int (nI s.1), .int (nI s.2.1), .int (nI s.2.2)])), (o2, .inr (8, [.ref bH, .ref bW, .ref bD, .ref bK, .ref bM, .ref bA, .ref bT, .ref bS, .int (nI ns), .int (nI nb), .int (nI na), .int (nI tm), .int (nI sn)])), (bH, arC cy 8 h), (bW, arC cy 3 w), (bD, arC cy 3 d), (bK, arC cy 5 k), (bM, arC cy 5 m), (bA, arC cy 6 fA), (bT, arC cy 6 fT), (bS, .inr (6, [.int (nI s.1), .int (nI s.2.1), .int (nI s.2.2)]))]) rfl (by decide) rfl (by decide) (by decide) (by decide) (fun _ => rfl) (lb rfl) dX8_become_109 hM.two (fun _ _ => ?_)
  show G [(o, .inr (8, [.ref aH, .ref aW, .ref aD, .ref aK, .ref aM, .ref aA, .ref aT, .ref aS, .int (nI ns0), .int (nI nb0), .int (nI na0), .int (nI tm0), .int (nI sn0)])), (aH, arC cy 8 h), (aW, arC cy 3 w), (aD, arC cy 3 d), (aK, arC cy 5 k), (aM, arC cy 5 m), (aA, arC cy 6 fA), (aT, arC cy 6 fT), (aS, .inr (6, [.int (nI s.1), .int (nI s.2.1), .int (nI s.2.2)])), (o2, .inr (8, [.ref bH, .ref bW, .ref bD, .ref bK, .ref bM, .ref bA, .ref bT, .ref bS, .int (nI ns), .int (nI nb), .int (nI na), .int (nI tm), .int (nI sn)])), (bH, arC cy 8 h), (bW, arC cy 3 w), (bD, arC cy 3 d), (bK, arC cy 5 k), (bM, arC cy 5 m), (bA, arC cy 6 fA), (bT, arC cy 6 fT), (bS, .inr (6, [.int (nI s.1), .int (nI s.2.1), .int (nI s.2.2)]))] [(0, .ref o), (1, .ref o2)] 112 []
  refine j_aload_n (pc := 112) hM dX8_become_112 rfl 0 rfl ?_
  refine j_aload_n (pc := 113) hM dX8_become_113 rfl 1 rfl ?_
  refine j_get (pc := 114) hM fd_X8_40 9 rfl rfl dX8_become_114 ?_
  refine j_put (pc := 117) hM fp_X8_40 [(o, .inr (8, [.ref aH, .ref aW, .ref aD, .ref aK, .ref aM, .ref aA, .ref aT, .ref aS, .int (nI ns), .int (nI nb0), .int (nI na0), .int (nI tm0), .int (nI sn0)])), (aH, arC cy 8 h), (aW, arC cy 3 w), (aD, arC cy 3 d), (aK, arC cy 5 k), (aM, arC cy 5 m), (aA, arC cy 6 fA), (aT, arC cy 6 fT), (aS, .inr (6, [.int (nI s.1), .int (nI s.2.1), .int (nI s.2.2)])), (o2, .inr (8, [.ref bH, .ref bW, .ref bD, .ref bK, .ref bM, .ref bA, .ref bT, .ref bS, .int (nI ns), .int (nI nb), .int (nI na), .int (nI tm), .int (nI sn)])), (bH, arC cy 8 h), (bW, arC cy 3 w), (bD, arC cy 3 d), (bK, arC cy 5 k), (bM, arC cy 5 m), (bA, arC cy 6 fA), (bT, arC cy 6 fT), (bS, .inr (6, [.int (nI s.1), .int (nI s.2.1), .int (nI s.2.2)]))] 0 rfl (lb rfl) rfl rfl rfl dX8_become_117 ?_
  refine j_aload_n (pc := 120) hM dX8_become_120 rfl 0 rfl ?_
  refine j_aload_n (pc := 121) hM dX8_become_121 rfl 1 rfl ?_
  refine j_get (pc := 122) hM fd_X8_44 9 rfl rfl dX8_become_122 ?_
  refine j_put (pc := 125) hM fp_X8_44 [(o, .inr (8, [.ref aH, .ref aW, .ref aD, .ref aK, .ref aM, .ref aA, .ref aT, .ref aS, .int (nI ns), .int (nI nb), .int (nI na0), .int (nI tm0), .int (nI sn0)])), (aH, arC cy 8 h), (aW, arC cy 3 w), (aD, arC cy 3 d), (aK, arC cy 5 k), (aM, arC cy 5 m), (aA, arC cy 6 fA), (aT, arC cy 6 fT), (aS, .inr (6, [.int (nI s.1), .int (nI s.2.1), .int (nI s.2.2)])), (o2, .inr (8, [.ref bH, .ref bW, .ref bD, .ref bK, .ref bM, .ref bA, .ref bT, .ref bS, .int (nI ns), .int (nI nb), .int (nI na), .int (nI tm), .int (nI sn)])), (bH, arC cy 8 h), (bW, arC cy 3 w), (bD, arC cy 3 d), (bK, arC cy 5 k), (bM, arC cy 5 m), (bA, arC cy 6 fA), (bT, arC cy 6 fT), (bS, .inr (6, [.int (nI s.1), .int (nI s.2.1), .int (nI s.2.2)]))] 0 rfl (lb rfl) rfl rfl rfl dX8_become_125 ?_
  refine j_aload_n (pc := 128) hM dX8_become_128 rfl 0 rfl ?_
  refine j_aload_n (pc := 129) hM dX8_become_129 rfl 1 rfl ?_
  refine j_get (pc := 130) hM fd_X8_47 9 rfl rfl dX8_become_130 ?_
  refine j_put (pc := 133) hM fp_X8_47 [(o, .inr (8, [.ref aH, .ref aW, .ref aD, .ref aK, .ref aM, .ref aA, .ref aT, .ref aS, .int (nI ns), .int (nI nb), .int (nI na), .int (nI tm0), .int (nI sn0)])), (aH, arC cy 8 h), (aW, arC cy 3 w), (aD, arC cy 3 d), (aK, arC cy 5 k), (aM, arC cy 5 m), (aA, arC cy 6 fA), (aT, arC cy 6 fT), (aS, .inr (6, [.int (nI s.1), .int (nI s.2.1), .int (nI s.2.2)])), (o2, .inr (8, [.ref bH, .ref bW, .ref bD, .ref bK, .ref bM, .ref bA, .ref bT, .ref bS, .int (nI ns), .int (nI nb), .int (nI na), .int (nI tm), .int (nI sn)])), (bH, arC cy 8 h), (bW, arC cy 3 w), (bD, arC cy 3 d), (bK, arC cy 5 k), (bM, arC cy 5 m), (bA, arC cy 6 fA), (bT, arC cy 6 fT), (bS, .inr (6, [.int (nI s.1), .int (nI s.2.1), .int (nI s.2.2)]))] 0 rfl (lb rfl) rfl rfl rfl dX8_become_133 ?_
  refine j_aload_n (pc := 136) hM dX8_become_136 rfl 0 rfl ?_
  refine j_aload_n (pc := 137) hM dX8_become_137 rfl 1 rfl ?_
  refine j_get (pc := 138) hM fd_X8_50 9 rfl rfl dX8_become_138 ?_
  refine j_put (pc := 141) hM fp_X8_50 [(o, .inr (8, [.ref aH, .ref aW, .ref aD, .ref aK, .ref aM, .ref aA, .ref aT, .ref aS, .int (nI ns), .int (nI nb), .int (nI na), .int (nI tm), .int (nI sn0)])), (aH, arC cy 8 h), (aW, arC cy 3 w), (aD, arC cy 3 d), (aK, arC cy 5 k), (aM, arC cy 5 m), (aA, arC cy 6 fA), (aT, arC cy 6 fT), (aS, .inr (6, [.int (nI s.1), .int (nI s.2.1), .int (nI s.2.2)])), (o2, .inr (8, [.ref bH, .ref bW, .ref bD, .ref bK, .ref bM, .ref bA, .ref bT, .ref bS, .int (nI ns), .int (nI nb), .int (nI na), .int (nI tm), .int (nI sn)])), (bH, arC cy 8 h), (bW, arC cy 3 w), (bD, arC cy 3 d), (bK, arC cy 5 k), (bM, arC cy 5 m), (bA, arC cy 6 fA), (bT, arC cy 6 fT), (bS, .inr (6, [.int (nI s.1), .int (nI s.2.1), .int (nI s.2.2)]))] 0 rfl (lb rfl) rfl rfl rfl dX8_become_141 ?_
  refine j_aload_n (pc := 144) hM dX8_become_144 rfl 0 rfl ?_
  refine j_aload_n (pc := 145) hM dX8_become_145 rfl 1 rfl ?_
  refine j_get (pc := 146) hM fd_X8_53 9 rfl rfl dX8_become_146 ?_
  refine j_put (pc := 149) hM fp_X8_53 [(o, .inr (8, [.ref aH, .ref aW, .ref aD, .ref aK, .ref aM, .ref aA, .ref aT, .ref aS, .int (nI ns), .int (nI nb), .int (nI na), .int (nI tm), .int (nI sn)])), (aH, arC cy 8 h), (aW, arC cy 3 w), (aD, arC cy 3 d), (aK, arC cy 5 k), (aM, arC cy 5 m), (aA, arC cy 6 fA), (aT, arC cy 6 fT), (aS, .inr (6, [.int (nI s.1), .int (nI s.2.1), .int (nI s.2.2)])), (o2, .inr (8, [.ref bH, .ref bW, .ref bD, .ref bK, .ref bM, .ref bA, .ref bT, .ref bS, .int (nI ns), .int (nI nb), .int (nI na), .int (nI tm), .int (nI sn)])), (bH, arC cy 8 h), (bW, arC cy 3 w), (bD, arC cy 3 d), (bK, arC cy 5 k), (bM, arC cy 5 m), (bA, arC cy 6 fA), (bT, arC cy 6 fT), (bS, .inr (6, [.int (nI s.1), .int (nI s.2.1), .int (nI s.2.2)]))] 0 rfl (lb rfl) rfl rfl rfl dX8_become_149 ?_
  exact hret () _ _ _ trivial rfl rfl dX8_become_152
set_option maxHeartbeats 4000000 in
set_option maxRecDepth 100000 in
theorem c_X4_put (l : Launch) (D : va_G) (cy : ClassId) (o : Nat) (aL : Nat) (n : Nat) (c : Nat) (p : Nat → Nat) (hn : n ≤ 34) : Ct (σ := Unit) l D cy yX4_put cX4_put 2 (some .boolean) { frames := 0, cells := 0, slots := 0, locals := 0 } [.ref o, .int (nI c)] [(o, .inr (4, [.ref aL, .int (nI n)])), (aL, arC cy 34 p)] (fun _ => True) (fun _ => some (.int (nI (if n < 34 then 1 else 0)))) (fun _ => [(o, .inr (4, [.ref aL, .int (nI (if n < 34 then n + 1 else n))])), (aL, arC cy 34 (if n < 34 then va_up p n c else p))]) := by
  refine Ct_ofI (by decide) (lb rfl) [(0, .ref o), (1, .int (nI c))] rfl (fun G hM hret => ?_)
  refine j_aload_n (pc := 0) hM dX4_put_0 rfl 0 rfl ?_
  refine j_get (pc := 1) hM fd_X4_15 0 rfl rfl dX4_put_1 ?_
  refine j_if_lt (pc := 4) hM 19 dX4_put_4 (by decide) (i0_lt (by omega)) (fun c4 => ?_) (fun c4 => ?_)
  · skip
    exact c4.elim
  · skip
    refine j_aload_n (pc := 7) hM dX4_put_7 rfl 0 rfl ?_
    refine j_get (pc := 8) hM fd_X4_15 0 rfl rfl dX4_put_8 ?_
    refine j_aload_n (pc := 11) hM dX4_put_11 rfl 0 rfl ?_
    refine j_get (pc := 12) hM fd_X4_9 0 rfl rfl dX4_put_12 ?_
    refine j_alen (pc := 15) hM (v := nI 34) 1 rfl rfl dX4_put_15 ?_
    refine j_icmp_lt (pc := 16) hM 21 dX4_put_16 (by decide) (cLT (by omega) (by omega)) (fun c16 => ?_) (fun c16 => ?_)
    · skip
      refine j_aload_n (pc := 21) hM dX4_put_21 rfl 0 rfl ?_
      refine j_get (pc := 22) hM fd_X4_9 0 rfl rfl dX4_put_22 ?_
      refine j_aload_n (pc := 25) hM dX4_put_25 rfl 0 rfl ?_
      refine j_get (pc := 26) hM fd_X4_15 0 rfl rfl dX4_put_26 ?_
      refine j_iload_n (pc := 29) hM dX4_put_29 rfl 1 rfl ?_
      refine j_stN (pc := 30) hM [(o, .inr (4, [.ref aL, .int (nI n)])), (aL, arC cy 34 (va_up p n c))] 1 rfl (by omega) (by decide) rfl dX4_put_30 ?_
      refine j_aload_n (pc := 31) hM dX4_put_31 rfl 0 rfl ?_
      refine j_dup (pc := 32) hM dX4_put_32 rfl ?_
      refine j_get (pc := 33) hM fd_X4_15 0 rfl rfl dX4_put_33 ?_
      refine j_iconst (pc := 36) hM (v := nI 1) dX4_put_36 (by decide) ?_
      refine j_iadd (pc := 37) hM (v := nI (n + 1)) dX4_put_37 (nI_add _ _) ?_
      refine j_put (pc := 38) hM fp_X4_15 [(o, .inr (4, [.ref aL, .int (nI (n + 1))])), (aL, arC cy 34 (va_up p n c))] 0 rfl (lb rfl) rfl rfl rfl dX4_put_38 ?_
      refine j_iconst (pc := 41) hM (v := nI 1) dX4_put_41 (by decide) ?_
      exact hret () _ _ _ _ trivial (eq2 (fun (z0 : Nat) (z1 : Nat → Nat) => ([(o, .inr (4, [.ref aL, .int (nI z0)])), (aL, arC cy 34 z1)] : va_W)) (show (n + 1) = (if n < 34 then n + 1 else n) from by simp [c16]) (show (va_up p n c) = (if n < 34 then va_up p n c else p) from by simp [c16])) (sI (show 1 = (if n < 34 then 1 else 0) from by simp [c16])) rfl dX4_put_42
    · skip
      refine j_iconst (pc := 19) hM (v := nI 0) dX4_put_19 (by decide) ?_
      exact hret () _ _ _ _ trivial (eq2 (fun (z0 : Nat) (z1 : Nat → Nat) => ([(o, .inr (4, [.ref aL, .int (nI z0)])), (aL, arC cy 34 z1)] : va_W)) (show n = (if n < 34 then n + 1 else n) from by simp [c16]) (show p = (if n < 34 then va_up p n c else p) from by simp [c16])) (sI (show 0 = (if n < 34 then 1 else 0) from by simp [c16])) rfl dX4_put_20
