def sC_compareFractions (a1 : Int64) (a2 : Int64) (a3 : Int64) (a4 : Int64) (M : pm_M) : Option (Int32 × pm_M) := pm_loop (fun _ _ _ _ _ _ _ => none) (fun (g1 : Int64 → Int64 → Int64 → Int64 → Int32 → Int32 → pm_M → Option (Int32 × pm_M)) x3 x4 x5 x6 x7 x8 M2 => if (200 : Int32) ≤ x8 then (some ((0 : Int32), M2)) else (if (lg_cmp x4 (0 : Int64)) ≤ 0 then (some ((0 : Int32), M2)) else (if (lg_cmp x6 (0 : Int64)) ≤ 0 then (some ((0 : Int32), M2)) else (if ¬ x4 = 0 then (if ¬ x6 = 0 then (if (lg_cmp (x3 / x4) (x5 / x6)) = 0 then (if ¬ x4 = 0 then (pm_lt ((x3 - x3 / x4 * x4)) fun x9 => if ¬ x6 = 0 then (pm_lt ((x5 - x5 / x6 * x6)) fun x10 => pm_jn (fun (M12 : pm_M) => pm_bd (sJLong_compare x9 x10 M12) fun v14 M13 => some ((x7 * v14), M13)) fun (j11 : pm_M → Option (Int32 × pm_M)) => if (lg_cmp x9 (0 : Int64)) = 0 then (j11 M2) else (if ¬ (lg_cmp x10 (0 : Int64)) = 0 then (pm_lt ((-x7)) fun x15 => pm_lt ((x8 + (1 : Int32))) fun x16 => g1 x4 x9 x6 x10 x15 x16 M2) else (j11 M2))) else none) else none) else (if ¬ x4 = 0 then (if ¬ x6 = 0 then (if (lg_cmp (x3 / x4) (x5 / x6)) ≤ 0 then (some ((-x7), M2)) else (some (x7, M2))) else none) else none)) else none) else none)))) 1000000 a1 a2 a3 a4 (1 : Int32) (0 : Int32) M
abbrev I_C_compareFractions (sh : Option (Int32 × pm_M)) (σ : pm_St) : Prop := pm_Im none (pm_Ev 1) pm_T116 (some .int) pm_rI sh σ
set_option maxHeartbeats 4000000 in
set_option maxRecDepth 100000 in
theorem sC_compareFractions_ok (a1 : Int64) (a2 : Int64) (a3 : Int64) (a4 : Int64) (M : pm_M) : ∀ r, sC_compareFractions a1 a2 a3 a4 M = some r → pm_Ev 2 116 [.long a1, .long a2, .long a3, .long a4] M (pm_rI r).1 (pm_rI r).2 := by
  refine pm_meth (al := [some (.long a1), none, some (.long a2), none, some (.long a3), none, some (.long a4), none, none, none, none, none, none, none, none, none, none, none, none, none, none, none]) rfl rfl rfl rfl rfl ?_
  unfold sC_compareFractions
  show I_C_compareFractions _ (0, [some (.long a1), none, some (.long a2), none, some (.long a3), none, some (.long a4), none, none, none, none, none, none, none, none, none, none, none, none, none, none, none], [], M)
  refine pm_irun 2 (σ' := (3, [some (.long a1), none, some (.long a2), none, some (.long a3), none, some (.long a4), none, some (.long a1), none, none, none, none, none, none, none, none, none, none, none, none, none], [], M)) rfl ?_
  refine pm_irun 2 (σ' := (6, [some (.long a1), none, some (.long a2), none, some (.long a3), none, some (.long a4), none, some (.long a1), none, some (.long a2), none, none, none, none, none, none, none, none, none, none, none], [], M)) rfl ?_
  refine pm_irun 2 (σ' := (10, [some (.long a1), none, some (.long a2), none, some (.long a3), none, some (.long a4), none, some (.long a1), none, some (.long a2), none, some (.long a3), none, none, none, none, none, none, none, none, none], [], M)) rfl ?_
  refine pm_irun 2 (σ' := (14, [some (.long a1), none, some (.long a2), none, some (.long a3), none, some (.long a4), none, some (.long a1), none, some (.long a2), none, some (.long a3), none, some (.long a4), none, none, none, none, none, none, none], [], M)) rfl ?_
  refine pm_irun 2 (σ' := (17, [some (.long a1), none, some (.long a2), none, some (.long a3), none, some (.long a4), none, some (.long a1), none, some (.long a2), none, some (.long a3), none, some (.long a4), none, some (.int (1 : Int32)), none, none, none, none, none], [], M)) rfl ?_
  refine pm_irun 2 (σ' := (20, [some (.long a1), none, some (.long a2), none, some (.long a3), none, some (.long a4), none, some (.long a1), none, some (.long a2), none, some (.long a3), none, some (.long a4), none, some (.int (1 : Int32)), some (.int (0 : Int32)), none, none, none, none], [], M)) rfl ?_
  refine pm_iwk (al' := [none, none, none, none, none, none, none, none, some (.long a1), none, some (.long a2), none, some (.long a3), none, some (.long a4), none, some (.int (1 : Int32)), some (.int (0 : Int32)), none, none, none, none]) (pm_wkN (pm_wkS (pm_wkN (pm_wkS (pm_wkN (pm_wkS (pm_wkN (pm_wkS (pm_wkS (pm_wkS (pm_wkS (pm_wkS (pm_wkS (pm_wkS (pm_wkS (pm_wkS (pm_wkS (pm_wkS (pm_wkS (pm_wkS (pm_wkS (pm_wkS pm_wk0)))))))))))))))))))))) ?_
  refine pm_iloop (fun (g : Int64 → Int64 → Int64 → Int64 → Int32 → Int32 → pm_M → Option (Int32 × pm_M)) => ∀ (x3 : Int64) (x4 : Int64) (x5 : Int64) (x6 : Int64) (x7 : Int32) (x8 : Int32) (M2 : pm_M), I_C_compareFractions (g x3 x4 x5 x6 x7 x8 M2) (20, [none, none, none, none, none, none, none, none, some (.long x3), none, some (.long x4), none, some (.long x5), none, some (.long x6), none, some (.int x7), some (.int x8), none, none, none, none], [], M2)) (fun _ _ _ _ _ _ _ => pm_inone) (fun g1 hg1 x3 x4 x5 x6 x7 x8 M2 => ?_) 1000000 _ _ _ _ _ _ _
  show I_C_compareFractions _ (20, [none, none, none, none, none, none, none, none, some (.long x3), none, some (.long x4), none, some (.long x5), none, some (.long x6), none, some (.int x7), some (.int x8), none, none, none, none], [], M2)
  refine pm_irun 2 (σ' := (25, [none, none, none, none, none, none, none, none, some (.long x3), none, some (.long x4), none, some (.long x5), none, some (.long x6), none, some (.int x7), some (.int x8), none, none, none, none], [.int (200 : Int32), .int x8], M2)) rfl ?_
  refine pm_iite (σ1 := (145, [none, none, none, none, none, none, none, none, some (.long x3), none, some (.long x4), none, some (.long x5), none, some (.long x6), none, some (.int x7), some (.int x8), none, none, none, none], [], M2)) (σ2 := (28, [none, none, none, none, none, none, none, none, some (.long x3), none, some (.long x4), none, some (.long x5), none, some (.long x6), none, some (.int x7), some (.int x8), none, none, none, none], [], M2)) rfl (fun _ => ?_) (fun _ => ?_)
  · refine pm_irun 1 (σ' := (146, [none, none, none, none, none, none, none, none, some (.long x3), none, some (.long x4), none, some (.long x5), none, some (.long x6), none, some (.int x7), some (.int x8), none, none, none, none], [.int (0 : Int32)], M2)) rfl ?_
    exact pm_irI rfl rfl
  · refine pm_irun 3 (σ' := (32, [none, none, none, none, none, none, none, none, some (.long x3), none, some (.long x4), none, some (.long x5), none, some (.long x6), none, some (.int x7), some (.int x8), none, none, none, none], [.int (lg_cmp x4 (0 : Int64))], M2)) rfl ?_
    refine pm_iite (σ1 := (145, [none, none, none, none, none, none, none, none, some (.long x3), none, some (.long x4), none, some (.long x5), none, some (.long x6), none, some (.int x7), some (.int x8), none, none, none, none], [], M2)) (σ2 := (35, [none, none, none, none, none, none, none, none, some (.long x3), none, some (.long x4), none, some (.long x5), none, some (.long x6), none, some (.int x7), some (.int x8), none, none, none, none], [], M2)) rfl (fun _ => ?_) (fun _ => ?_)
    · refine pm_irun 1 (σ' := (146, [none, none, none, none, none, none, none, none, some (.long x3), none, some (.long x4), none, some (.long x5), none, some (.long x6), none, some (.int x7), some (.int x8), none, none, none, none], [.int (0 : Int32)], M2)) rfl ?_
      exact pm_irI rfl rfl
    · refine pm_irun 3 (σ' := (39, [none, none, none, none, none, none, none, none, some (.long x3), none, some (.long x4), none, some (.long x5), none, some (.long x6), none, some (.int x7), some (.int x8), none, none, none, none], [.int (lg_cmp x6 (0 : Int64))], M2)) rfl ?_
      refine pm_iite (σ1 := (145, [none, none, none, none, none, none, none, none, some (.long x3), none, some (.long x4), none, some (.long x5), none, some (.long x6), none, some (.int x7), some (.int x8), none, none, none, none], [], M2)) (σ2 := (42, [none, none, none, none, none, none, none, none, some (.long x3), none, some (.long x4), none, some (.long x5), none, some (.long x6), none, some (.int x7), some (.int x8), none, none, none, none], [], M2)) rfl (fun _ => ?_) (fun _ => ?_)
      · refine pm_irun 1 (σ' := (146, [none, none, none, none, none, none, none, none, some (.long x3), none, some (.long x4), none, some (.long x5), none, some (.long x6), none, some (.int x7), some (.int x8), none, none, none, none], [.int (0 : Int32)], M2)) rfl ?_
        exact pm_irI rfl rfl
      · refine pm_irun 2 (σ' := (46, [none, none, none, none, none, none, none, none, some (.long x3), none, some (.long x4), none, some (.long x5), none, some (.long x6), none, some (.int x7), some (.int x8), none, none, none, none], [.long x4, .long x3], M2)) rfl ?_
        refine pm_igd (σ1 := (47, [none, none, none, none, none, none, none, none, some (.long x3), none, some (.long x4), none, some (.long x5), none, some (.long x6), none, some (.int x7), some (.int x8), none, none, none, none], [.long (x3 / x4)], M2)) rfl (fun _ => ?_)
        refine pm_irun 2 (σ' := (51, [none, none, none, none, none, none, none, none, some (.long x3), none, some (.long x4), none, some (.long x5), none, some (.long x6), none, some (.int x7), some (.int x8), none, none, none, none], [.long x6, .long x5, .long (x3 / x4)], M2)) rfl ?_
        refine pm_igd (σ1 := (52, [none, none, none, none, none, none, none, none, some (.long x3), none, some (.long x4), none, some (.long x5), none, some (.long x6), none, some (.int x7), some (.int x8), none, none, none, none], [.long (x5 / x6), .long (x3 / x4)], M2)) rfl (fun _ => ?_)
        refine pm_irun 1 (σ' := (53, [none, none, none, none, none, none, none, none, some (.long x3), none, some (.long x4), none, some (.long x5), none, some (.long x6), none, some (.int x7), some (.int x8), none, none, none, none], [.int (lg_cmp (x3 / x4) (x5 / x6))], M2)) rfl ?_
        refine pm_iite (σ1 := (79, [none, none, none, none, none, none, none, none, some (.long x3), none, some (.long x4), none, some (.long x5), none, some (.long x6), none, some (.int x7), some (.int x8), none, none, none, none], [], M2)) (σ2 := (56, [none, none, none, none, none, none, none, none, some (.long x3), none, some (.long x4), none, some (.long x5), none, some (.long x6), none, some (.int x7), some (.int x8), none, none, none, none], [], M2)) rfl (fun _ => ?_) (fun _ => ?_)
        · refine pm_irun 2 (σ' := (83, [none, none, none, none, none, none, none, none, some (.long x3), none, some (.long x4), none, some (.long x5), none, some (.long x6), none, some (.int x7), some (.int x8), none, none, none, none], [.long x4, .long x3], M2)) rfl ?_
          refine pm_igd (σ1 := (84, [none, none, none, none, none, none, none, none, some (.long x3), none, some (.long x4), none, some (.long x5), none, some (.long x6), none, some (.int x7), some (.int x8), none, none, none, none], [.long (x3 - x3 / x4 * x4)], M2)) rfl (fun _ => ?_)
          refine pm_irun 1 (σ' := (86, [none, none, none, none, none, none, none, none, some (.long x3), none, some (.long x4), none, some (.long x5), none, some (.long x6), none, some (.int x7), some (.int x8), some (.long (x3 - x3 / x4 * x4)), none, none, none], [], M2)) rfl ?_
          refine pm_ilt (fun y => (86, [none, none, none, none, none, none, none, none, some (.long x3), none, some (.long x4), none, some (.long x5), none, some (.long x6), none, some (.int x7), some (.int x8), some (.long y), none, none, none], [], M2)) (fun x9 => ?_)
          refine pm_irun 2 (σ' := (90, [none, none, none, none, none, none, none, none, some (.long x3), none, some (.long x4), none, some (.long x5), none, some (.long x6), none, some (.int x7), some (.int x8), some (.long x9), none, none, none], [.long x6, .long x5], M2)) rfl ?_
          refine pm_igd (σ1 := (91, [none, none, none, none, none, none, none, none, some (.long x3), none, some (.long x4), none, some (.long x5), none, some (.long x6), none, some (.int x7), some (.int x8), some (.long x9), none, none, none], [.long (x5 - x5 / x6 * x6)], M2)) rfl (fun _ => ?_)
          refine pm_irun 1 (σ' := (93, [none, none, none, none, none, none, none, none, some (.long x3), none, some (.long x4), none, some (.long x5), none, some (.long x6), none, some (.int x7), some (.int x8), some (.long x9), none, some (.long (x5 - x5 / x6 * x6)), none], [], M2)) rfl ?_
          refine pm_ilt (fun y => (93, [none, none, none, none, none, none, none, none, some (.long x3), none, some (.long x4), none, some (.long x5), none, some (.long x6), none, some (.int x7), some (.int x8), some (.long x9), none, some (.long y), none], [], M2)) (fun x10 => ?_)
          refine pm_irun 3 (σ' := (97, [none, none, none, none, none, none, none, none, some (.long x3), none, some (.long x4), none, some (.long x5), none, some (.long x6), none, some (.int x7), some (.int x8), some (.long x9), none, some (.long x10), none], [.int (lg_cmp x9 (0 : Int64))], M2)) rfl ?_
          refine pm_ijn (fun (g : pm_M → Option (Int32 × pm_M)) => ∀ (M12 : pm_M), I_C_compareFractions (g M12) (107, [none, none, none, none, none, none, none, none, none, none, none, none, none, none, none, none, some (.int x7), none, some (.long x9), none, some (.long x10), none], [], M12)) (fun (M12 : pm_M) => ?_) (fun j11 hj11 => ?_)
          · show I_C_compareFractions _ (107, [none, none, none, none, none, none, none, none, none, none, none, none, none, none, none, none, some (.int x7), none, some (.long x9), none, some (.long x10), none], [], M12)
            refine pm_irun 3 (σ' := (113, [none, none, none, none, none, none, none, none, none, none, none, none, none, none, none, none, some (.int x7), none, some (.long x9), none, some (.long x10), none], [.long x10, .long x9, .int x7], M12)) rfl ?_
            refine pm_icI (as := [.long x9, .long x10]) (rest := [.int x7]) rfl rfl rfl rfl (Nat.le_of_ble_eq_true rfl) rfl (fun r h => pm_Ev_mono (Nat.le_of_ble_eq_true rfl) (sJLong_compare_ok x9 x10 M12 r h)) (fun v14 M13 => ?_)
            show pm_Im _ _ _ _ _ _ (116, [none, none, none, none, none, none, none, none, none, none, none, none, none, none, none, none, some (.int x7), none, some (.long x9), none, some (.long x10), none], [.int v14, .int x7], M13)
            refine pm_irun 1 (σ' := (117, [none, none, none, none, none, none, none, none, none, none, none, none, none, none, none, none, some (.int x7), none, some (.long x9), none, some (.long x10), none], [.int (x7 * v14)], M13)) rfl ?_
            exact pm_irI rfl rfl
          refine pm_iite (σ1 := (107, [none, none, none, none, none, none, none, none, some (.long x3), none, some (.long x4), none, some (.long x5), none, some (.long x6), none, some (.int x7), some (.int x8), some (.long x9), none, some (.long x10), none], [], M2)) (σ2 := (100, [none, none, none, none, none, none, none, none, some (.long x3), none, some (.long x4), none, some (.long x5), none, some (.long x6), none, some (.int x7), some (.int x8), some (.long x9), none, some (.long x10), none], [], M2)) rfl (fun _ => ?_) (fun _ => ?_)
          · refine pm_iwk (al' := [none, none, none, none, none, none, none, none, none, none, none, none, none, none, none, none, some (.int x7), none, some (.long x9), none, some (.long x10), none]) (pm_wkS (pm_wkS (pm_wkS (pm_wkS (pm_wkS (pm_wkS (pm_wkS (pm_wkS (pm_wkN (pm_wkS (pm_wkN (pm_wkS (pm_wkN (pm_wkS (pm_wkN (pm_wkS (pm_wkS (pm_wkN (pm_wkS (pm_wkS (pm_wkS (pm_wkS pm_wk0)))))))))))))))))))))) ?_
            exact hj11 _
          · refine pm_irun 3 (σ' := (104, [none, none, none, none, none, none, none, none, some (.long x3), none, some (.long x4), none, some (.long x5), none, some (.long x6), none, some (.int x7), some (.int x8), some (.long x9), none, some (.long x10), none], [.int (lg_cmp x10 (0 : Int64))], M2)) rfl ?_
            refine pm_iite (σ1 := (118, [none, none, none, none, none, none, none, none, some (.long x3), none, some (.long x4), none, some (.long x5), none, some (.long x6), none, some (.int x7), some (.int x8), some (.long x9), none, some (.long x10), none], [], M2)) (σ2 := (107, [none, none, none, none, none, none, none, none, some (.long x3), none, some (.long x4), none, some (.long x5), none, some (.long x6), none, some (.int x7), some (.int x8), some (.long x9), none, some (.long x10), none], [], M2)) rfl (fun _ => ?_) (fun _ => ?_)
            · refine pm_irun 2 (σ' := (122, [none, none, none, none, none, none, none, none, some (.long x4), none, some (.long x4), none, some (.long x5), none, some (.long x6), none, some (.int x7), some (.int x8), some (.long x9), none, some (.long x10), none], [], M2)) rfl ?_
              refine pm_irun 2 (σ' := (126, [none, none, none, none, none, none, none, none, some (.long x4), none, some (.long x9), none, some (.long x5), none, some (.long x6), none, some (.int x7), some (.int x8), some (.long x9), none, some (.long x10), none], [], M2)) rfl ?_
              refine pm_irun 2 (σ' := (130, [none, none, none, none, none, none, none, none, some (.long x4), none, some (.long x9), none, some (.long x6), none, some (.long x6), none, some (.int x7), some (.int x8), some (.long x9), none, some (.long x10), none], [], M2)) rfl ?_
              refine pm_irun 2 (σ' := (134, [none, none, none, none, none, none, none, none, some (.long x4), none, some (.long x9), none, some (.long x6), none, some (.long x10), none, some (.int x7), some (.int x8), some (.long x9), none, some (.long x10), none], [], M2)) rfl ?_
              refine pm_irun 3 (σ' := (139, [none, none, none, none, none, none, none, none, some (.long x4), none, some (.long x9), none, some (.long x6), none, some (.long x10), none, some (.int (-x7)), some (.int x8), some (.long x9), none, some (.long x10), none], [], M2)) rfl ?_
              refine pm_ilt (fun y => (139, [none, none, none, none, none, none, none, none, some (.long x4), none, some (.long x9), none, some (.long x6), none, some (.long x10), none, some (.int y), some (.int x8), some (.long x9), none, some (.long x10), none], [], M2)) (fun x15 => ?_)
              refine pm_irun 1 (σ' := (142, [none, none, none, none, none, none, none, none, some (.long x4), none, some (.long x9), none, some (.long x6), none, some (.long x10), none, some (.int x15), some (.int (x8 + (1 : Int32))), some (.long x9), none, some (.long x10), none], [], M2)) rfl ?_
              refine pm_ilt (fun y => (142, [none, none, none, none, none, none, none, none, some (.long x4), none, some (.long x9), none, some (.long x6), none, some (.long x10), none, some (.int x15), some (.int y), some (.long x9), none, some (.long x10), none], [], M2)) (fun x16 => ?_)
              refine pm_irun 1 (σ' := (20, [none, none, none, none, none, none, none, none, some (.long x4), none, some (.long x9), none, some (.long x6), none, some (.long x10), none, some (.int x15), some (.int x16), some (.long x9), none, some (.long x10), none], [], M2)) rfl ?_
              refine pm_iwk (al' := [none, none, none, none, none, none, none, none, some (.long x4), none, some (.long x9), none, some (.long x6), none, some (.long x10), none, some (.int x15), some (.int x16), none, none, none, none]) (pm_wkS (pm_wkS (pm_wkS (pm_wkS (pm_wkS (pm_wkS (pm_wkS (pm_wkS (pm_wkS (pm_wkS (pm_wkS (pm_wkS (pm_wkS (pm_wkS (pm_wkS (pm_wkS (pm_wkS (pm_wkS (pm_wkN (pm_wkS (pm_wkN (pm_wkS pm_wk0)))))))))))))))))))))) ?_
              exact hg1 _ _ _ _ _ _ _
            · refine pm_iwk (al' := [none, none, none, none, none, none, none, none, none, none, none, none, none, none, none, none, some (.int x7), none, some (.long x9), none, some (.long x10), none]) (pm_wkS (pm_wkS (pm_wkS (pm_wkS (pm_wkS (pm_wkS (pm_wkS (pm_wkS (pm_wkN (pm_wkS (pm_wkN (pm_wkS (pm_wkN (pm_wkS (pm_wkN (pm_wkS (pm_wkS (pm_wkN (pm_wkS (pm_wkS (pm_wkS (pm_wkS pm_wk0)))))))))))))))))))))) ?_
              exact hj11 _
        · refine pm_irun 2 (σ' := (60, [none, none, none, none, none, none, none, none, some (.long x3), none, some (.long x4), none, some (.long x5), none, some (.long x6), none, some (.int x7), some (.int x8), none, none, none, none], [.long x4, .long x3], M2)) rfl ?_
          refine pm_igd (σ1 := (61, [none, none, none, none, none, none, none, none, some (.long x3), none, some (.long x4), none, some (.long x5), none, some (.long x6), none, some (.int x7), some (.int x8), none, none, none, none], [.long (x3 / x4)], M2)) rfl (fun _ => ?_)
          refine pm_irun 2 (σ' := (65, [none, none, none, none, none, none, none, none, some (.long x3), none, some (.long x4), none, some (.long x5), none, some (.long x6), none, some (.int x7), some (.int x8), none, none, none, none], [.long x6, .long x5, .long (x3 / x4)], M2)) rfl ?_
          refine pm_igd (σ1 := (66, [none, none, none, none, none, none, none, none, some (.long x3), none, some (.long x4), none, some (.long x5), none, some (.long x6), none, some (.int x7), some (.int x8), none, none, none, none], [.long (x5 / x6), .long (x3 / x4)], M2)) rfl (fun _ => ?_)
          refine pm_irun 1 (σ' := (67, [none, none, none, none, none, none, none, none, some (.long x3), none, some (.long x4), none, some (.long x5), none, some (.long x6), none, some (.int x7), some (.int x8), none, none, none, none], [.int (lg_cmp (x3 / x4) (x5 / x6))], M2)) rfl ?_
          refine pm_iite (σ1 := (75, [none, none, none, none, none, none, none, none, some (.long x3), none, some (.long x4), none, some (.long x5), none, some (.long x6), none, some (.int x7), some (.int x8), none, none, none, none], [], M2)) (σ2 := (70, [none, none, none, none, none, none, none, none, some (.long x3), none, some (.long x4), none, some (.long x5), none, some (.long x6), none, some (.int x7), some (.int x8), none, none, none, none], [], M2)) rfl (fun _ => ?_) (fun _ => ?_)
          · refine pm_irun 2 (σ' := (78, [none, none, none, none, none, none, none, none, some (.long x3), none, some (.long x4), none, some (.long x5), none, some (.long x6), none, some (.int x7), some (.int x8), none, none, none, none], [.int (-x7)], M2)) rfl ?_
            exact pm_irI rfl rfl
          · refine pm_irun 2 (σ' := (78, [none, none, none, none, none, none, none, none, some (.long x3), none, some (.long x4), none, some (.long x5), none, some (.long x6), none, some (.int x7), some (.int x8), none, none, none, none], [.int x7], M2)) rfl ?_
            exact pm_irI rfl rfl
def sC_swift (a1 : Int32) (M : pm_M) : Option (Int32 × pm_M) := pm_bd (sC_isClass a1 M) fun v2 M1 => if ¬ v2 = 0 then (pm_bd (sTours_isSound M1) fun v4 M3 => if v4 = 0 then (some ((-3 : Int32), M3)) else (if pm_in a1 2 then (if ¬ (M3.1 5 a1.toNatClampNeg) = 0 then (pm_loop (fun _ _ _ _ _ => none) (fun (g5 : Int32 → Int64 → Int64 → Int32 → pm_M → Option (Int32 × pm_M)) x7 x8 x9 x10 M6 => if (M6.1 1 0) ≤ x10 then (pm_bv (sStates_load M6) fun M11 => some (x7, M11)) else (pm_bd (sNet_timeOf_1 a1 x10 M6) fun v13 M12 => if (2 : Int32) ≤ v13 then (pm_bv (sC_hasten a1 x10 M12) fun M14 => pm_bd (sStates_rateAbove a1 M14) fun v16 M15 => pm_bd (sStates_constantOfAll M15) fun v18 M17 => pm_jn (fun (M20 : pm_M) => pm_lt ((x10 + (1 : Int32))) fun x21 => g5 x10 v16 v18 x21 M20) fun (j19 : pm_M → Option (Int32 × pm_M)) => if x7 = (-1 : Int32) then (j19 M17) else (pm_bd (sC_compareFractions v16 v18 x8 x9 M17) fun v23 M22 => if v23 ≤ 0 then (pm_lt ((x10 + (1 : Int32))) fun x24 => g5 x7 x8 x9 x24 M22) else (j19 M22))) else (pm_lt ((x10 + (1 : Int32))) fun x25 => g5 x7 x8 x9 x25 M12))) 1000000 (-1 : Int32) (0 : Int64) (1 : Int64) (0 : Int32) M3) else (some ((-3 : Int32), M3))) else none)) else (some ((-2 : Int32), M1))
abbrev I_C_swift (sh : Option (Int32 × pm_M)) (σ : pm_St) : Prop := pm_Im none (pm_Ev 6) pm_T79 (some .int) pm_rI sh σ
set_option maxHeartbeats 4000000 in
set_option maxRecDepth 100000 in
theorem sC_swift_ok (a1 : Int32) (M : pm_M) : ∀ r, sC_swift a1 M = some r → pm_Ev 7 79 [.ref 0, .int a1] M (pm_rI r).1 (pm_rI r).2 := by
  refine pm_meth (al := [some (.ref 0), some (.int a1), none, none, none, none, none, none, none, none, none, none]) rfl rfl rfl rfl rfl ?_
  unfold sC_swift
  show I_C_swift _ (0, [some (.ref 0), some (.int a1), none, none, none, none, none, none, none, none, none, none], [], M)
  refine pm_irun 1 (σ' := (1, [some (.ref 0), some (.int a1), none, none, none, none, none, none, none, none, none, none], [.int a1], M)) rfl ?_
  refine pm_icI (as := [.int a1]) (rest := []) rfl rfl rfl rfl (Nat.le_of_ble_eq_true rfl) rfl (fun r h => pm_Ev_mono (Nat.le_of_ble_eq_true rfl) (sC_isClass_ok a1 M r h)) (fun v2 M1 => ?_)
  show pm_Im _ _ _ _ _ _ (4, [some (.ref 0), some (.int a1), none, none, none, none, none, none, none, none, none, none], [.int v2], M1)
  refine pm_iite (σ1 := (10, [some (.ref 0), some (.int a1), none, none, none, none, none, none, none, none, none, none], [], M1)) (σ2 := (7, [some (.ref 0), some (.int a1), none, none, none, none, none, none, none, none, none, none], [], M1)) rfl (fun _ => ?_) (fun _ => ?_)
  · refine pm_irun 2 (σ' := (14, [some (.ref 0), some (.int a1), none, none, none, none, none, none, none, none, none, none], [.ref 15], M1)) rfl ?_
    refine pm_icI (as := [.ref 15]) (rest := []) rfl rfl rfl rfl (Nat.le_of_ble_eq_true rfl) rfl (fun r h => pm_Ev_mono (Nat.le_of_ble_eq_true rfl) (sTours_isSound_ok M1 r h)) (fun v4 M3 => ?_)
    show pm_Im _ _ _ _ _ _ (17, [some (.ref 0), some (.int a1), none, none, none, none, none, none, none, none, none, none], [.int v4], M3)
    refine pm_iite (σ1 := (32, [some (.ref 0), some (.int a1), none, none, none, none, none, none, none, none, none, none], [], M3)) (σ2 := (20, [some (.ref 0), some (.int a1), none, none, none, none, none, none, none, none, none, none], [], M3)) rfl (fun _ => ?_) (fun _ => ?_)
    · refine pm_irun 1 (σ' := (34, [some (.ref 0), some (.int a1), none, none, none, none, none, none, none, none, none, none], [.int (-3 : Int32)], M3)) rfl ?_
      exact pm_irI rfl rfl
    · refine pm_irun 4 (σ' := (28, [some (.ref 0), some (.int a1), none, none, none, none, none, none, none, none, none, none], [.int a1, .ref 5], M3)) rfl ?_
      refine pm_igd (σ1 := (29, [some (.ref 0), some (.int a1), none, none, none, none, none, none, none, none, none, none], [.int (M3.1 5 a1.toNatClampNeg)], M3)) rfl (fun _ => ?_)
      refine pm_iite (σ1 := (35, [some (.ref 0), some (.int a1), none, none, none, none, none, none, none, none, none, none], [], M3)) (σ2 := (32, [some (.ref 0), some (.int a1), none, none, none, none, none, none, none, none, none, none], [], M3)) rfl (fun _ => ?_) (fun _ => ?_)
      · refine pm_irun 2 (σ' := (37, [some (.ref 0), some (.int a1), some (.int (-1 : Int32)), none, none, none, none, none, none, none, none, none], [], M3)) rfl ?_
        refine pm_irun 2 (σ' := (39, [some (.ref 0), some (.int a1), some (.int (-1 : Int32)), some (.long (0 : Int64)), none, none, none, none, none, none, none, none], [], M3)) rfl ?_
        refine pm_irun 2 (σ' := (42, [some (.ref 0), some (.int a1), some (.int (-1 : Int32)), some (.long (0 : Int64)), none, some (.long (1 : Int64)), none, none, none, none, none, none], [], M3)) rfl ?_
        refine pm_irun 2 (σ' := (45, [some (.ref 0), some (.int a1), some (.int (-1 : Int32)), some (.long (0 : Int64)), none, some (.long (1 : Int64)), none, some (.int (0 : Int32)), none, none, none, none], [], M3)) rfl ?_
        refine pm_iloop (fun (g : Int32 → Int64 → Int64 → Int32 → pm_M → Option (Int32 × pm_M)) => ∀ (x7 : Int32) (x8 : Int64) (x9 : Int64) (x10 : Int32) (M6 : pm_M), I_C_swift (g x7 x8 x9 x10 M6) (45, [some (.ref 0), some (.int a1), some (.int x7), some (.long x8), none, some (.long x9), none, some (.int x10), none, none, none, none], [], M6)) (fun _ _ _ _ _ => pm_inone) (fun g5 hg5 x7 x8 x9 x10 M6 => ?_) 1000000 _ _ _ _ _
        show I_C_swift _ (45, [some (.ref 0), some (.int a1), some (.int x7), some (.long x8), none, some (.long x9), none, some (.int x10), none, none, none, none], [], M6)
        refine pm_irun 4 (σ' := (54, [some (.ref 0), some (.int a1), some (.int x7), some (.long x8), none, some (.long x9), none, some (.int x10), none, none, none, none], [.int (M6.1 1 0), .int x10], M6)) rfl ?_
        refine pm_iite (σ1 := (134, [some (.ref 0), some (.int a1), some (.int x7), some (.long x8), none, some (.long x9), none, some (.int x10), none, none, none, none], [], M6)) (σ2 := (57, [some (.ref 0), some (.int a1), some (.int x7), some (.long x8), none, some (.long x9), none, some (.int x10), none, none, none, none], [], M6)) rfl (fun _ => ?_) (fun _ => ?_)
        · refine pm_irun 6 (σ' := (146, [some (.ref 0), some (.int a1), some (.int x7), some (.long x8), none, some (.long x9), none, some (.int x10), none, none, none, none], [.ref 15, .ref 1, .ref 23], M6)) rfl ?_
          refine pm_icV (as := [.ref 23, .ref 1, .ref 15]) (rest := []) rfl rfl rfl rfl (Nat.le_of_ble_eq_true rfl) rfl (fun r h => pm_Ev_mono (Nat.le_of_ble_eq_true rfl) (sStates_load_ok M6 r h)) (fun M11 => ?_)
          show pm_Im _ _ _ _ _ _ (149, [some (.ref 0), some (.int a1), some (.int x7), some (.long x8), none, some (.long x9), none, some (.int x10), none, none, none, none], [], M11)
          refine pm_irun 1 (σ' := (150, [some (.ref 0), some (.int a1), some (.int x7), some (.long x8), none, some (.long x9), none, some (.int x10), none, none, none, none], [.int x7], M11)) rfl ?_
          exact pm_irI rfl rfl
        · refine pm_irun 4 (σ' := (64, [some (.ref 0), some (.int a1), some (.int x7), some (.long x8), none, some (.long x9), none, some (.int x10), none, none, none, none], [.int x10, .int a1, .ref 1], M6)) rfl ?_
          refine pm_icI (as := [.ref 1, .int a1, .int x10]) (rest := []) rfl rfl rfl rfl (Nat.le_of_ble_eq_true rfl) rfl (fun r h => pm_Ev_mono (Nat.le_of_ble_eq_true rfl) (sNet_timeOf_1_ok a1 x10 M6 r h)) (fun v13 M12 => ?_)
          show pm_Im _ _ _ _ _ _ (67, [some (.ref 0), some (.int a1), some (.int x7), some (.long x8), none, some (.long x9), none, some (.int x10), none, none, none, none], [.int v13], M12)
          refine pm_irun 1 (σ' := (68, [some (.ref 0), some (.int a1), some (.int x7), some (.long x8), none, some (.long x9), none, some (.int x10), none, none, none, none], [.int (2 : Int32), .int v13], M12)) rfl ?_
          refine pm_iite (σ1 := (74, [some (.ref 0), some (.int a1), some (.int x7), some (.long x8), none, some (.long x9), none, some (.int x10), none, none, none, none], [], M12)) (σ2 := (71, [some (.ref 0), some (.int a1), some (.int x7), some (.long x8), none, some (.long x9), none, some (.int x10), none, none, none, none], [], M12)) rfl (fun _ => ?_) (fun _ => ?_)
          · refine pm_irun 3 (σ' := (78, [some (.ref 0), some (.int a1), some (.int x7), some (.long x8), none, some (.long x9), none, some (.int x10), none, none, none, none], [.int x10, .int a1, .ref 0], M12)) rfl ?_
            refine pm_icV (as := [.ref 0, .int a1, .int x10]) (rest := []) rfl rfl rfl rfl (Nat.le_of_ble_eq_true rfl) rfl (fun r h => pm_Ev_mono (Nat.le_of_ble_eq_true rfl) (sC_hasten_ok a1 x10 M12 r h)) (fun M14 => ?_)
            show pm_Im _ _ _ _ _ _ (81, [some (.ref 0), some (.int a1), some (.int x7), some (.long x8), none, some (.long x9), none, some (.int x10), none, none, none, none], [], M14)
            refine pm_irun 3 (σ' := (86, [some (.ref 0), some (.int a1), some (.int x7), some (.long x8), none, some (.long x9), none, some (.int x10), none, none, none, none], [.int a1, .ref 23], M14)) rfl ?_
            refine pm_icL (as := [.ref 23, .int a1]) (rest := []) rfl rfl rfl rfl (Nat.le_of_ble_eq_true rfl) rfl (fun r h => pm_Ev_mono (Nat.le_of_ble_eq_true rfl) (sStates_rateAbove_ok a1 M14 r h)) (fun v16 M15 => ?_)
            show pm_Im _ _ _ _ _ _ (89, [some (.ref 0), some (.int a1), some (.int x7), some (.long x8), none, some (.long x9), none, some (.int x10), none, none, none, none], [.long v16], M15)
            refine pm_irun 1 (σ' := (91, [some (.ref 0), some (.int a1), some (.int x7), some (.long x8), none, some (.long x9), none, some (.int x10), some (.long v16), none, none, none], [], M15)) rfl ?_
            refine pm_irun 2 (σ' := (95, [some (.ref 0), some (.int a1), some (.int x7), some (.long x8), none, some (.long x9), none, some (.int x10), some (.long v16), none, none, none], [.ref 23], M15)) rfl ?_
            refine pm_icL (as := [.ref 23]) (rest := []) rfl rfl rfl rfl (Nat.le_of_ble_eq_true rfl) rfl (fun r h => pm_Ev_mono (Nat.le_of_ble_eq_true rfl) (sStates_constantOfAll_ok M15 r h)) (fun v18 M17 => ?_)
            show pm_Im _ _ _ _ _ _ (98, [some (.ref 0), some (.int a1), some (.int x7), some (.long x8), none, some (.long x9), none, some (.int x10), some (.long v16), none, none, none], [.long v18], M17)
            refine pm_irun 1 (σ' := (100, [some (.ref 0), some (.int a1), some (.int x7), some (.long x8), none, some (.long x9), none, some (.int x10), some (.long v16), none, some (.long v18), none], [], M17)) rfl ?_
            refine pm_irun 2 (σ' := (102, [some (.ref 0), some (.int a1), some (.int x7), some (.long x8), none, some (.long x9), none, some (.int x10), some (.long v16), none, some (.long v18), none], [.int (-1 : Int32), .int x7], M17)) rfl ?_
            refine pm_ijn (fun (g : pm_M → Option (Int32 × pm_M)) => ∀ (M20 : pm_M), I_C_swift (g M20) (118, [some (.ref 0), some (.int a1), none, none, none, none, none, some (.int x10), some (.long v16), none, some (.long v18), none], [], M20)) (fun (M20 : pm_M) => ?_) (fun j19 hj19 => ?_)
            · show I_C_swift _ (118, [some (.ref 0), some (.int a1), none, none, none, none, none, some (.int x10), some (.long v16), none, some (.long v18), none], [], M20)
              refine pm_irun 2 (σ' := (121, [some (.ref 0), some (.int a1), some (.int x10), none, none, none, none, some (.int x10), some (.long v16), none, some (.long v18), none], [], M20)) rfl ?_
              refine pm_irun 2 (σ' := (124, [some (.ref 0), some (.int a1), some (.int x10), some (.long v16), none, none, none, some (.int x10), some (.long v16), none, some (.long v18), none], [], M20)) rfl ?_
              refine pm_irun 2 (σ' := (128, [some (.ref 0), some (.int a1), some (.int x10), some (.long v16), none, some (.long v18), none, some (.int x10), some (.long v16), none, some (.long v18), none], [], M20)) rfl ?_
              refine pm_irun 1 (σ' := (131, [some (.ref 0), some (.int a1), some (.int x10), some (.long v16), none, some (.long v18), none, some (.int (x10 + (1 : Int32))), some (.long v16), none, some (.long v18), none], [], M20)) rfl ?_
              refine pm_ilt (fun y => (131, [some (.ref 0), some (.int a1), some (.int x10), some (.long v16), none, some (.long v18), none, some (.int y), some (.long v16), none, some (.long v18), none], [], M20)) (fun x21 => ?_)
              refine pm_irun 1 (σ' := (45, [some (.ref 0), some (.int a1), some (.int x10), some (.long v16), none, some (.long v18), none, some (.int x21), some (.long v16), none, some (.long v18), none], [], M20)) rfl ?_
              refine pm_iwk (al' := [some (.ref 0), some (.int a1), some (.int x10), some (.long v16), none, some (.long v18), none, some (.int x21), none, none, none, none]) (pm_wkS (pm_wkS (pm_wkS (pm_wkS (pm_wkS (pm_wkS (pm_wkS (pm_wkS (pm_wkN (pm_wkS (pm_wkN (pm_wkS pm_wk0)))))))))))) ?_
              exact hg5 _ _ _ _ _
            refine pm_iite (σ1 := (118, [some (.ref 0), some (.int a1), some (.int x7), some (.long x8), none, some (.long x9), none, some (.int x10), some (.long v16), none, some (.long v18), none], [], M17)) (σ2 := (105, [some (.ref 0), some (.int a1), some (.int x7), some (.long x8), none, some (.long x9), none, some (.int x10), some (.long v16), none, some (.long v18), none], [], M17)) rfl (fun _ => ?_) (fun _ => ?_)
            · refine pm_iwk (al' := [some (.ref 0), some (.int a1), none, none, none, none, none, some (.int x10), some (.long v16), none, some (.long v18), none]) (pm_wkS (pm_wkS (pm_wkN (pm_wkN (pm_wkS (pm_wkN (pm_wkS (pm_wkS (pm_wkS (pm_wkS (pm_wkS (pm_wkS pm_wk0)))))))))))) ?_
              exact hj19 _
            · refine pm_irun 4 (σ' := (112, [some (.ref 0), some (.int a1), some (.int x7), some (.long x8), none, some (.long x9), none, some (.int x10), some (.long v16), none, some (.long v18), none], [.long x9, .long x8, .long v18, .long v16], M17)) rfl ?_
              refine pm_icI (as := [.long v16, .long v18, .long x8, .long x9]) (rest := []) rfl rfl rfl rfl (Nat.le_of_ble_eq_true rfl) rfl (fun r h => pm_Ev_mono (Nat.le_of_ble_eq_true rfl) (sC_compareFractions_ok v16 v18 x8 x9 M17 r h)) (fun v23 M22 => ?_)
              show pm_Im _ _ _ _ _ _ (115, [some (.ref 0), some (.int a1), some (.int x7), some (.long x8), none, some (.long x9), none, some (.int x10), some (.long v16), none, some (.long v18), none], [.int v23], M22)
              refine pm_iite (σ1 := (128, [some (.ref 0), some (.int a1), some (.int x7), some (.long x8), none, some (.long x9), none, some (.int x10), some (.long v16), none, some (.long v18), none], [], M22)) (σ2 := (118, [some (.ref 0), some (.int a1), some (.int x7), some (.long x8), none, some (.long x9), none, some (.int x10), some (.long v16), none, some (.long v18), none], [], M22)) rfl (fun _ => ?_) (fun _ => ?_)
              · refine pm_irun 1 (σ' := (131, [some (.ref 0), some (.int a1), some (.int x7), some (.long x8), none, some (.long x9), none, some (.int (x10 + (1 : Int32))), some (.long v16), none, some (.long v18), none], [], M22)) rfl ?_
                refine pm_ilt (fun y => (131, [some (.ref 0), some (.int a1), some (.int x7), some (.long x8), none, some (.long x9), none, some (.int y), some (.long v16), none, some (.long v18), none], [], M22)) (fun x24 => ?_)
                refine pm_irun 1 (σ' := (45, [some (.ref 0), some (.int a1), some (.int x7), some (.long x8), none, some (.long x9), none, some (.int x24), some (.long v16), none, some (.long v18), none], [], M22)) rfl ?_
                refine pm_iwk (al' := [some (.ref 0), some (.int a1), some (.int x7), some (.long x8), none, some (.long x9), none, some (.int x24), none, none, none, none]) (pm_wkS (pm_wkS (pm_wkS (pm_wkS (pm_wkS (pm_wkS (pm_wkS (pm_wkS (pm_wkN (pm_wkS (pm_wkN (pm_wkS pm_wk0)))))))))))) ?_
                exact hg5 _ _ _ _ _
              · refine pm_iwk (al' := [some (.ref 0), some (.int a1), none, none, none, none, none, some (.int x10), some (.long v16), none, some (.long v18), none]) (pm_wkS (pm_wkS (pm_wkN (pm_wkN (pm_wkS (pm_wkN (pm_wkS (pm_wkS (pm_wkS (pm_wkS (pm_wkS (pm_wkS pm_wk0)))))))))))) ?_
                exact hj19 _
          · refine pm_irun 2 (σ' := (131, [some (.ref 0), some (.int a1), some (.int x7), some (.long x8), none, some (.long x9), none, some (.int (x10 + (1 : Int32))), none, none, none, none], [], M12)) rfl ?_
            refine pm_ilt (fun y => (131, [some (.ref 0), some (.int a1), some (.int x7), some (.long x8), none, some (.long x9), none, some (.int y), none, none, none, none], [], M12)) (fun x25 => ?_)
            refine pm_irun 1 (σ' := (45, [some (.ref 0), some (.int a1), some (.int x7), some (.long x8), none, some (.long x9), none, some (.int x25), none, none, none, none], [], M12)) rfl ?_
            exact hg5 _ _ _ _ _
      · refine pm_irun 1 (σ' := (34, [some (.ref 0), some (.int a1), none, none, none, none, none, none, none, none, none, none], [.int (-3 : Int32)], M3)) rfl ?_
        exact pm_irI rfl rfl
  · refine pm_irun 1 (σ' := (9, [some (.ref 0), some (.int a1), none, none, none, none, none, none, none, none, none, none], [.int (-2 : Int32)], M1)) rfl ?_
    exact pm_irI rfl rfl
def sR_isMore (a1 : Int64) (a2 : Int64) (a3 : Int64) (a4 : Int64) (M : pm_M) : Option (Int32 × pm_M) := pm_loop (fun _ _ _ _ _ _ => none) (fun (g1 : Int64 → Int64 → Int64 → Int64 → Int32 → pm_M → Option (Int32 × pm_M)) x3 x4 x5 x6 x7 M2 => if ¬ x4 = 0 then (if ¬ x6 = 0 then (if (lg_cmp (x3 / x4) (x5 / x6)) = 0 then (if ¬ x4 = 0 then (pm_lt ((x3 - x3 / x4 * x4)) fun x8 => if ¬ x6 = 0 then (pm_lt ((x5 - x5 / x6 * x6)) fun x9 => pm_jn (fun (M11 : pm_M) => pm_jn (fun (q14 : Int32) (M13 : pm_M) => if q14 = x7 then (some ((0 : Int32), M13)) else (if ¬ (lg_cmp x8 (0 : Int64)) = 0 then (some ((1 : Int32), M13)) else (if (lg_cmp x9 (0 : Int64)) = 0 then (some ((0 : Int32), M13)) else (some ((1 : Int32), M13))))) fun (j12 : Int32 → pm_M → Option (Int32 × pm_M)) => if (lg_cmp x8 (0 : Int64)) = 0 then (j12 (0 : Int32) M11) else (j12 (1 : Int32) M11)) fun (j10 : pm_M → Option (Int32 × pm_M)) => if (lg_cmp x8 (0 : Int64)) = 0 then (j10 M2) else (if ¬ (lg_cmp x9 (0 : Int64)) = 0 then (if ¬ x7 = 0 then (g1 x4 x8 x6 x9 (0 : Int32) M2) else (g1 x4 x8 x6 x9 (1 : Int32) M2)) else (j10 M2))) else none) else none) else (if ¬ x4 = 0 then (if ¬ x6 = 0 then (pm_jn (fun (q17 : Int32) (M16 : pm_M) => if q17 = x7 then (some ((0 : Int32), M16)) else (some ((1 : Int32), M16))) fun (j15 : Int32 → pm_M → Option (Int32 × pm_M)) => if (lg_cmp (x3 / x4) (x5 / x6)) ≤ 0 then (j15 (0 : Int32) M2) else (j15 (1 : Int32) M2)) else none) else none)) else none) else none) 1000000 a1 a2 a3 a4 (0 : Int32) M
abbrev I_R_isMore (sh : Option (Int32 × pm_M)) (σ : pm_St) : Prop := pm_Im none (pm_Ev 0) pm_T175 (some .boolean) pm_rI sh σ
set_option maxHeartbeats 4000000 in
set_option maxRecDepth 100000 in
theorem sR_isMore_ok (a1 : Int64) (a2 : Int64) (a3 : Int64) (a4 : Int64) (M : pm_M) : ∀ r, sR_isMore a1 a2 a3 a4 M = some r → pm_Ev 1 175 [.long a1, .long a2, .long a3, .long a4] M (pm_rI r).1 (pm_rI r).2 := by
  refine pm_meth (al := [some (.long a1), none, some (.long a2), none, some (.long a3), none, some (.long a4), none, none, none, none, none, none, none, none, none, none, none, none]) rfl rfl rfl rfl rfl ?_
  unfold sR_isMore
  show I_R_isMore _ (0, [some (.long a1), none, some (.long a2), none, some (.long a3), none, some (.long a4), none, none, none, none, none, none, none, none, none, none, none, none], [], M)
  refine pm_irun 2 (σ' := (3, [some (.long a1), none, some (.long a2), none, some (.long a3), none, some (.long a4), none, some (.long a1), none, none, none, none, none, none, none, none, none, none], [], M)) rfl ?_
  refine pm_irun 2 (σ' := (6, [some (.long a1), none, some (.long a2), none, some (.long a3), none, some (.long a4), none, some (.long a1), none, some (.long a2), none, none, none, none, none, none, none, none], [], M)) rfl ?_
  refine pm_irun 2 (σ' := (10, [some (.long a1), none, some (.long a2), none, some (.long a3), none, some (.long a4), none, some (.long a1), none, some (.long a2), none, some (.long a3), none, none, none, none, none, none], [], M)) rfl ?_
  refine pm_irun 2 (σ' := (14, [some (.long a1), none, some (.long a2), none, some (.long a3), none, some (.long a4), none, some (.long a1), none, some (.long a2), none, some (.long a3), none, some (.long a4), none, none, none, none], [], M)) rfl ?_
  refine pm_irun 2 (σ' := (17, [some (.long a1), none, some (.long a2), none, some (.long a3), none, some (.long a4), none, some (.long a1), none, some (.long a2), none, some (.long a3), none, some (.long a4), none, some (.int (0 : Int32)), none, none], [], M)) rfl ?_
  refine pm_iwk (al' := [none, none, none, none, none, none, none, none, some (.long a1), none, some (.long a2), none, some (.long a3), none, some (.long a4), none, some (.int (0 : Int32)), none, none]) (pm_wkN (pm_wkS (pm_wkN (pm_wkS (pm_wkN (pm_wkS (pm_wkN (pm_wkS (pm_wkS (pm_wkS (pm_wkS (pm_wkS (pm_wkS (pm_wkS (pm_wkS (pm_wkS (pm_wkS (pm_wkS (pm_wkS pm_wk0))))))))))))))))))) ?_
  refine pm_iloop (fun (g : Int64 → Int64 → Int64 → Int64 → Int32 → pm_M → Option (Int32 × pm_M)) => ∀ (x3 : Int64) (x4 : Int64) (x5 : Int64) (x6 : Int64) (x7 : Int32) (M2 : pm_M), I_R_isMore (g x3 x4 x5 x6 x7 M2) (17, [none, none, none, none, none, none, none, none, some (.long x3), none, some (.long x4), none, some (.long x5), none, some (.long x6), none, some (.int x7), none, none], [], M2)) (fun _ _ _ _ _ _ => pm_inone) (fun g1 hg1 x3 x4 x5 x6 x7 M2 => ?_) 1000000 _ _ _ _ _ _
  show I_R_isMore _ (17, [none, none, none, none, none, none, none, none, some (.long x3), none, some (.long x4), none, some (.long x5), none, some (.long x6), none, some (.int x7), none, none], [], M2)
  refine pm_irun 2 (σ' := (21, [none, none, none, none, none, none, none, none, some (.long x3), none, some (.long x4), none, some (.long x5), none, some (.long x6), none, some (.int x7), none, none], [.long x4, .long x3], M2)) rfl ?_
  refine pm_igd (σ1 := (22, [none, none, none, none, none, none, none, none, some (.long x3), none, some (.long x4), none, some (.long x5), none, some (.long x6), none, some (.int x7), none, none], [.long (x3 / x4)], M2)) rfl (fun _ => ?_)
  refine pm_irun 2 (σ' := (26, [none, none, none, none, none, none, none, none, some (.long x3), none, some (.long x4), none, some (.long x5), none, some (.long x6), none, some (.int x7), none, none], [.long x6, .long x5, .long (x3 / x4)], M2)) rfl ?_
  refine pm_igd (σ1 := (27, [none, none, none, none, none, none, none, none, some (.long x3), none, some (.long x4), none, some (.long x5), none, some (.long x6), none, some (.int x7), none, none], [.long (x5 / x6), .long (x3 / x4)], M2)) rfl (fun _ => ?_)
  refine pm_irun 1 (σ' := (28, [none, none, none, none, none, none, none, none, some (.long x3), none, some (.long x4), none, some (.long x5), none, some (.long x6), none, some (.int x7), none, none], [.int (lg_cmp (x3 / x4) (x5 / x6))], M2)) rfl ?_
  refine pm_iite (σ1 := (61, [none, none, none, none, none, none, none, none, some (.long x3), none, some (.long x4), none, some (.long x5), none, some (.long x6), none, some (.int x7), none, none], [], M2)) (σ2 := (31, [none, none, none, none, none, none, none, none, some (.long x3), none, some (.long x4), none, some (.long x5), none, some (.long x6), none, some (.int x7), none, none], [], M2)) rfl (fun _ => ?_) (fun _ => ?_)
  · refine pm_irun 2 (σ' := (65, [none, none, none, none, none, none, none, none, some (.long x3), none, some (.long x4), none, some (.long x5), none, some (.long x6), none, some (.int x7), none, none], [.long x4, .long x3], M2)) rfl ?_
    refine pm_igd (σ1 := (66, [none, none, none, none, none, none, none, none, some (.long x3), none, some (.long x4), none, some (.long x5), none, some (.long x6), none, some (.int x7), none, none], [.long (x3 - x3 / x4 * x4)], M2)) rfl (fun _ => ?_)
    refine pm_irun 1 (σ' := (68, [none, none, none, none, none, none, none, none, some (.long (x3 - x3 / x4 * x4)), none, some (.long x4), none, some (.long x5), none, some (.long x6), none, some (.int x7), none, none], [], M2)) rfl ?_
    refine pm_ilt (fun y => (68, [none, none, none, none, none, none, none, none, some (.long y), none, some (.long x4), none, some (.long x5), none, some (.long x6), none, some (.int x7), none, none], [], M2)) (fun x8 => ?_)
    refine pm_irun 2 (σ' := (72, [none, none, none, none, none, none, none, none, some (.long x8), none, some (.long x4), none, some (.long x5), none, some (.long x6), none, some (.int x7), none, none], [.long x6, .long x5], M2)) rfl ?_
    refine pm_igd (σ1 := (73, [none, none, none, none, none, none, none, none, some (.long x8), none, some (.long x4), none, some (.long x5), none, some (.long x6), none, some (.int x7), none, none], [.long (x5 - x5 / x6 * x6)], M2)) rfl (fun _ => ?_)
    refine pm_irun 1 (σ' := (75, [none, none, none, none, none, none, none, none, some (.long x8), none, some (.long x4), none, some (.long (x5 - x5 / x6 * x6)), none, some (.long x6), none, some (.int x7), none, none], [], M2)) rfl ?_
    refine pm_ilt (fun y => (75, [none, none, none, none, none, none, none, none, some (.long x8), none, some (.long x4), none, some (.long y), none, some (.long x6), none, some (.int x7), none, none], [], M2)) (fun x9 => ?_)
    refine pm_irun 3 (σ' := (79, [none, none, none, none, none, none, none, none, some (.long x8), none, some (.long x4), none, some (.long x9), none, some (.long x6), none, some (.int x7), none, none], [.int (lg_cmp x8 (0 : Int64))], M2)) rfl ?_
    refine pm_ijn (fun (g : pm_M → Option (Int32 × pm_M)) => ∀ (M11 : pm_M), I_R_isMore (g M11) (89, [none, none, none, none, none, none, none, none, some (.long x8), none, none, none, some (.long x9), none, none, none, some (.int x7), none, none], [], M11)) (fun (M11 : pm_M) => ?_) (fun j10 hj10 => ?_)
    · show I_R_isMore _ (89, [none, none, none, none, none, none, none, none, some (.long x8), none, none, none, some (.long x9), none, none, none, some (.int x7), none, none], [], M11)
      refine pm_irun 3 (σ' := (93, [none, none, none, none, none, none, none, none, some (.long x8), none, none, none, some (.long x9), none, none, none, some (.int x7), none, none], [.int (lg_cmp x8 (0 : Int64))], M11)) rfl ?_
      refine pm_ijn (fun (g : Int32 → pm_M → Option (Int32 × pm_M)) => ∀ (q14 : Int32) (M13 : pm_M), I_R_isMore (g q14 M13) (101, [none, none, none, none, none, none, none, none, some (.long x8), none, none, none, some (.long x9), none, none, none, some (.int x7), none, none], [.int q14], M13)) (fun (q14 : Int32) (M13 : pm_M) => ?_) (fun j12 hj12 => ?_)
      · show I_R_isMore _ (101, [none, none, none, none, none, none, none, none, some (.long x8), none, none, none, some (.long x9), none, none, none, some (.int x7), none, none], [.int q14], M13)
        refine pm_irun 1 (σ' := (103, [none, none, none, none, none, none, none, none, some (.long x8), none, none, none, some (.long x9), none, none, none, some (.int x7), none, none], [.int x7, .int q14], M13)) rfl ?_
        refine pm_iite (σ1 := (124, [none, none, none, none, none, none, none, none, some (.long x8), none, none, none, some (.long x9), none, none, none, some (.int x7), none, none], [], M13)) (σ2 := (106, [none, none, none, none, none, none, none, none, some (.long x8), none, none, none, some (.long x9), none, none, none, some (.int x7), none, none], [], M13)) rfl (fun _ => ?_) (fun _ => ?_)
        · refine pm_irun 1 (σ' := (125, [none, none, none, none, none, none, none, none, some (.long x8), none, none, none, some (.long x9), none, none, none, some (.int x7), none, none], [.int (0 : Int32)], M13)) rfl ?_
          exact pm_irZ (Or.inl rfl) rfl rfl
        · refine pm_irun 3 (σ' := (110, [none, none, none, none, none, none, none, none, some (.long x8), none, none, none, some (.long x9), none, none, none, some (.int x7), none, none], [.int (lg_cmp x8 (0 : Int64))], M13)) rfl ?_
          refine pm_iite (σ1 := (120, [none, none, none, none, none, none, none, none, some (.long x8), none, none, none, some (.long x9), none, none, none, some (.int x7), none, none], [], M13)) (σ2 := (113, [none, none, none, none, none, none, none, none, some (.long x8), none, none, none, some (.long x9), none, none, none, some (.int x7), none, none], [], M13)) rfl (fun _ => ?_) (fun _ => ?_)
          · refine pm_irun 2 (σ' := (125, [none, none, none, none, none, none, none, none, some (.long x8), none, none, none, some (.long x9), none, none, none, some (.int x7), none, none], [.int (1 : Int32)], M13)) rfl ?_
            exact pm_irZ (Or.inr rfl) rfl rfl
          · refine pm_irun 3 (σ' := (117, [none, none, none, none, none, none, none, none, some (.long x8), none, none, none, some (.long x9), none, none, none, some (.int x7), none, none], [.int (lg_cmp x9 (0 : Int64))], M13)) rfl ?_
            refine pm_iite (σ1 := (124, [none, none, none, none, none, none, none, none, some (.long x8), none, none, none, some (.long x9), none, none, none, some (.int x7), none, none], [], M13)) (σ2 := (120, [none, none, none, none, none, none, none, none, some (.long x8), none, none, none, some (.long x9), none, none, none, some (.int x7), none, none], [], M13)) rfl (fun _ => ?_) (fun _ => ?_)
            · refine pm_irun 1 (σ' := (125, [none, none, none, none, none, none, none, none, some (.long x8), none, none, none, some (.long x9), none, none, none, some (.int x7), none, none], [.int (0 : Int32)], M13)) rfl ?_
              exact pm_irZ (Or.inl rfl) rfl rfl
            · refine pm_irun 2 (σ' := (125, [none, none, none, none, none, none, none, none, some (.long x8), none, none, none, some (.long x9), none, none, none, some (.int x7), none, none], [.int (1 : Int32)], M13)) rfl ?_
              exact pm_irZ (Or.inr rfl) rfl rfl
      refine pm_iite (σ1 := (100, [none, none, none, none, none, none, none, none, some (.long x8), none, none, none, some (.long x9), none, none, none, some (.int x7), none, none], [], M11)) (σ2 := (96, [none, none, none, none, none, none, none, none, some (.long x8), none, none, none, some (.long x9), none, none, none, some (.int x7), none, none], [], M11)) rfl (fun _ => ?_) (fun _ => ?_)
      · refine pm_irun 1 (σ' := (101, [none, none, none, none, none, none, none, none, some (.long x8), none, none, none, some (.long x9), none, none, none, some (.int x7), none, none], [.int (0 : Int32)], M11)) rfl ?_
        exact hj12 _ _
      · refine pm_irun 2 (σ' := (101, [none, none, none, none, none, none, none, none, some (.long x8), none, none, none, some (.long x9), none, none, none, some (.int x7), none, none], [.int (1 : Int32)], M11)) rfl ?_
        exact hj12 _ _
    refine pm_iite (σ1 := (89, [none, none, none, none, none, none, none, none, some (.long x8), none, some (.long x4), none, some (.long x9), none, some (.long x6), none, some (.int x7), none, none], [], M2)) (σ2 := (82, [none, none, none, none, none, none, none, none, some (.long x8), none, some (.long x4), none, some (.long x9), none, some (.long x6), none, some (.int x7), none, none], [], M2)) rfl (fun _ => ?_) (fun _ => ?_)
    · refine pm_iwk (al' := [none, none, none, none, none, none, none, none, some (.long x8), none, none, none, some (.long x9), none, none, none, some (.int x7), none, none]) (pm_wkS (pm_wkS (pm_wkS (pm_wkS (pm_wkS (pm_wkS (pm_wkS (pm_wkS (pm_wkS (pm_wkS (pm_wkN (pm_wkS (pm_wkS (pm_wkS (pm_wkN (pm_wkS (pm_wkS (pm_wkS (pm_wkS pm_wk0))))))))))))))))))) ?_
      exact hj10 _
    · refine pm_irun 3 (σ' := (86, [none, none, none, none, none, none, none, none, some (.long x8), none, some (.long x4), none, some (.long x9), none, some (.long x6), none, some (.int x7), none, none], [.int (lg_cmp x9 (0 : Int64))], M2)) rfl ?_
      refine pm_iite (σ1 := (126, [none, none, none, none, none, none, none, none, some (.long x8), none, some (.long x4), none, some (.long x9), none, some (.long x6), none, some (.int x7), none, none], [], M2)) (σ2 := (89, [none, none, none, none, none, none, none, none, some (.long x8), none, some (.long x4), none, some (.long x9), none, some (.long x6), none, some (.int x7), none, none], [], M2)) rfl (fun _ => ?_) (fun _ => ?_)
      · refine pm_irun 2 (σ' := (130, [none, none, none, none, none, none, none, none, some (.long x8), none, some (.long x4), none, some (.long x9), none, some (.long x6), none, some (.int x7), some (.long x8), none], [], M2)) rfl ?_
        refine pm_irun 2 (σ' := (134, [none, none, none, none, none, none, none, none, some (.long x4), none, some (.long x4), none, some (.long x9), none, some (.long x6), none, some (.int x7), some (.long x8), none], [], M2)) rfl ?_
        refine pm_irun 2 (σ' := (138, [none, none, none, none, none, none, none, none, some (.long x4), none, some (.long x8), none, some (.long x9), none, some (.long x6), none, some (.int x7), some (.long x8), none], [], M2)) rfl ?_
        refine pm_irun 2 (σ' := (142, [none, none, none, none, none, none, none, none, some (.long x4), none, some (.long x8), none, some (.long x9), none, some (.long x6), none, some (.int x7), some (.long x9), none], [], M2)) rfl ?_
        refine pm_irun 2 (σ' := (146, [none, none, none, none, none, none, none, none, some (.long x4), none, some (.long x8), none, some (.long x6), none, some (.long x6), none, some (.int x7), some (.long x9), none], [], M2)) rfl ?_
        refine pm_irun 2 (σ' := (150, [none, none, none, none, none, none, none, none, some (.long x4), none, some (.long x8), none, some (.long x6), none, some (.long x9), none, some (.int x7), some (.long x9), none], [], M2)) rfl ?_
        refine pm_irun 1 (σ' := (152, [none, none, none, none, none, none, none, none, some (.long x4), none, some (.long x8), none, some (.long x6), none, some (.long x9), none, some (.int x7), some (.long x9), none], [.int x7], M2)) rfl ?_
        refine pm_iite (σ1 := (159, [none, none, none, none, none, none, none, none, some (.long x4), none, some (.long x8), none, some (.long x6), none, some (.long x9), none, some (.int x7), some (.long x9), none], [], M2)) (σ2 := (155, [none, none, none, none, none, none, none, none, some (.long x4), none, some (.long x8), none, some (.long x6), none, some (.long x9), none, some (.int x7), some (.long x9), none], [], M2)) rfl (fun _ => ?_) (fun _ => ?_)
        · refine pm_irun 2 (σ' := (162, [none, none, none, none, none, none, none, none, some (.long x4), none, some (.long x8), none, some (.long x6), none, some (.long x9), none, some (.int (0 : Int32)), some (.long x9), none], [], M2)) rfl ?_
          refine pm_irun 1 (σ' := (17, [none, none, none, none, none, none, none, none, some (.long x4), none, some (.long x8), none, some (.long x6), none, some (.long x9), none, some (.int (0 : Int32)), some (.long x9), none], [], M2)) rfl ?_
          refine pm_iwk (al' := [none, none, none, none, none, none, none, none, some (.long x4), none, some (.long x8), none, some (.long x6), none, some (.long x9), none, some (.int (0 : Int32)), none, none]) (pm_wkS (pm_wkS (pm_wkS (pm_wkS (pm_wkS (pm_wkS (pm_wkS (pm_wkS (pm_wkS (pm_wkS (pm_wkS (pm_wkS (pm_wkS (pm_wkS (pm_wkS (pm_wkS (pm_wkS (pm_wkN (pm_wkS pm_wk0))))))))))))))))))) ?_
          exact hg1 _ _ _ _ _ _
        · refine pm_irun 3 (σ' := (162, [none, none, none, none, none, none, none, none, some (.long x4), none, some (.long x8), none, some (.long x6), none, some (.long x9), none, some (.int (1 : Int32)), some (.long x9), none], [], M2)) rfl ?_
          refine pm_irun 1 (σ' := (17, [none, none, none, none, none, none, none, none, some (.long x4), none, some (.long x8), none, some (.long x6), none, some (.long x9), none, some (.int (1 : Int32)), some (.long x9), none], [], M2)) rfl ?_
          refine pm_iwk (al' := [none, none, none, none, none, none, none, none, some (.long x4), none, some (.long x8), none, some (.long x6), none, some (.long x9), none, some (.int (1 : Int32)), none, none]) (pm_wkS (pm_wkS (pm_wkS (pm_wkS (pm_wkS (pm_wkS (pm_wkS (pm_wkS (pm_wkS (pm_wkS (pm_wkS (pm_wkS (pm_wkS (pm_wkS (pm_wkS (pm_wkS (pm_wkS (pm_wkN (pm_wkS pm_wk0))))))))))))))))))) ?_
          exact hg1 _ _ _ _ _ _
      · refine pm_iwk (al' := [none, none, none, none, none, none, none, none, some (.long x8), none, none, none, some (.long x9), none, none, none, some (.int x7), none, none]) (pm_wkS (pm_wkS (pm_wkS (pm_wkS (pm_wkS (pm_wkS (pm_wkS (pm_wkS (pm_wkS (pm_wkS (pm_wkN (pm_wkS (pm_wkS (pm_wkS (pm_wkN (pm_wkS (pm_wkS (pm_wkS (pm_wkS pm_wk0))))))))))))))))))) ?_
        exact hj10 _
  · refine pm_irun 2 (σ' := (35, [none, none, none, none, none, none, none, none, some (.long x3), none, some (.long x4), none, some (.long x5), none, some (.long x6), none, some (.int x7), none, none], [.long x4, .long x3], M2)) rfl ?_
    refine pm_igd (σ1 := (36, [none, none, none, none, none, none, none, none, some (.long x3), none, some (.long x4), none, some (.long x5), none, some (.long x6), none, some (.int x7), none, none], [.long (x3 / x4)], M2)) rfl (fun _ => ?_)
    refine pm_irun 2 (σ' := (40, [none, none, none, none, none, none, none, none, some (.long x3), none, some (.long x4), none, some (.long x5), none, some (.long x6), none, some (.int x7), none, none], [.long x6, .long x5, .long (x3 / x4)], M2)) rfl ?_
    refine pm_igd (σ1 := (41, [none, none, none, none, none, none, none, none, some (.long x3), none, some (.long x4), none, some (.long x5), none, some (.long x6), none, some (.int x7), none, none], [.long (x5 / x6), .long (x3 / x4)], M2)) rfl (fun _ => ?_)
    refine pm_irun 1 (σ' := (42, [none, none, none, none, none, none, none, none, some (.long x3), none, some (.long x4), none, some (.long x5), none, some (.long x6), none, some (.int x7), none, none], [.int (lg_cmp (x3 / x4) (x5 / x6))], M2)) rfl ?_
    refine pm_ijn (fun (g : Int32 → pm_M → Option (Int32 × pm_M)) => ∀ (q17 : Int32) (M16 : pm_M), I_R_isMore (g q17 M16) (50, [none, none, none, none, none, none, none, none, none, none, none, none, none, none, none, none, some (.int x7), none, none], [.int q17], M16)) (fun (q17 : Int32) (M16 : pm_M) => ?_) (fun j15 hj15 => ?_)
    · show I_R_isMore _ (50, [none, none, none, none, none, none, none, none, none, none, none, none, none, none, none, none, some (.int x7), none, none], [.int q17], M16)
      refine pm_irun 1 (σ' := (52, [none, none, none, none, none, none, none, none, none, none, none, none, none, none, none, none, some (.int x7), none, none], [.int x7, .int q17], M16)) rfl ?_
      refine pm_iite (σ1 := (59, [none, none, none, none, none, none, none, none, none, none, none, none, none, none, none, none, some (.int x7), none, none], [], M16)) (σ2 := (55, [none, none, none, none, none, none, none, none, none, none, none, none, none, none, none, none, some (.int x7), none, none], [], M16)) rfl (fun _ => ?_) (fun _ => ?_)
      · refine pm_irun 1 (σ' := (60, [none, none, none, none, none, none, none, none, none, none, none, none, none, none, none, none, some (.int x7), none, none], [.int (0 : Int32)], M16)) rfl ?_
        exact pm_irZ (Or.inl rfl) rfl rfl
      · refine pm_irun 2 (σ' := (60, [none, none, none, none, none, none, none, none, none, none, none, none, none, none, none, none, some (.int x7), none, none], [.int (1 : Int32)], M16)) rfl ?_
        exact pm_irZ (Or.inr rfl) rfl rfl
    refine pm_iite (σ1 := (49, [none, none, none, none, none, none, none, none, some (.long x3), none, some (.long x4), none, some (.long x5), none, some (.long x6), none, some (.int x7), none, none], [], M2)) (σ2 := (45, [none, none, none, none, none, none, none, none, some (.long x3), none, some (.long x4), none, some (.long x5), none, some (.long x6), none, some (.int x7), none, none], [], M2)) rfl (fun _ => ?_) (fun _ => ?_)
    · refine pm_irun 1 (σ' := (50, [none, none, none, none, none, none, none, none, some (.long x3), none, some (.long x4), none, some (.long x5), none, some (.long x6), none, some (.int x7), none, none], [.int (0 : Int32)], M2)) rfl ?_
      refine pm_iwk (al' := [none, none, none, none, none, none, none, none, none, none, none, none, none, none, none, none, some (.int x7), none, none]) (pm_wkS (pm_wkS (pm_wkS (pm_wkS (pm_wkS (pm_wkS (pm_wkS (pm_wkS (pm_wkN (pm_wkS (pm_wkN (pm_wkS (pm_wkN (pm_wkS (pm_wkN (pm_wkS (pm_wkS (pm_wkS (pm_wkS pm_wk0))))))))))))))))))) ?_
      exact hj15 _ _
    · refine pm_irun 2 (σ' := (50, [none, none, none, none, none, none, none, none, some (.long x3), none, some (.long x4), none, some (.long x5), none, some (.long x6), none, some (.int x7), none, none], [.int (1 : Int32)], M2)) rfl ?_
      refine pm_iwk (al' := [none, none, none, none, none, none, none, none, none, none, none, none, none, none, none, none, some (.int x7), none, none]) (pm_wkS (pm_wkS (pm_wkS (pm_wkS (pm_wkS (pm_wkS (pm_wkS (pm_wkS (pm_wkN (pm_wkS (pm_wkN (pm_wkS (pm_wkN (pm_wkS (pm_wkN (pm_wkS (pm_wkS (pm_wkS (pm_wkS pm_wk0))))))))))))))))))) ?_
      exact hj15 _ _
def sR_swift (a1 : Int32) (M : pm_M) : Option (Int32 × pm_M) := pm_bd (sR_isPart a1 M) fun v2 M1 => if ¬ v2 = 0 then (if pm_in a1 2 then (if (M1.1 53 a1.toNatClampNeg) = 0 then (some ((-3 : Int32), M1)) else (pm_bd (sR_isSound M1) fun v4 M3 => if ¬ v4 = 0 then (pm_loop (fun _ _ _ _ _ => none) (fun (g5 : Int32 → Int64 → Int64 → Int32 → pm_M → Option (Int32 × pm_M)) x7 x8 x9 x10 M6 => if (M6.1 49 1) ≤ x10 then (some (x7, M6)) else (if pm_in x10 5 then (pm_jn (fun (q13 : Int32) (M12 : pm_M) => if pm_in q13 10 then (if (2 : Int32) ≤ (M12.1 51 q13.toNatClampNeg) then (if pm_in q13 10 then (if pm_in q13 10 then (pm_lt (pm_sI M12 51 q13.toNatClampNeg (((M12.1 51 q13.toNatClampNeg) - (1 : Int32)))) fun M14 => pm_bd (sR_isSound M14) fun v16 M15 => pm_bv (sR_constants (M15.1 49 1) (-1 : Int32) M15) fun M17 => if pm_in q13 10 then (if pm_in q13 10 then (pm_lt (pm_sI M17 51 q13.toNatClampNeg (((M17.1 51 q13.toNatClampNeg) + (1 : Int32)))) fun M18 => pm_bd (sR_rateAbove a1 (M18.1 53 0) (M18.1 53 1) M18) fun v20 M19 => pm_bd (sR_whole (M19.1 53 0) (M19.1 53 1) M19) fun v22 M21 => pm_jn (fun (M24 : pm_M) => pm_lt ((x10 + (1 : Int32))) fun x25 => g5 x10 v20 v22 x25 M24) fun (j23 : pm_M → Option (Int32 × pm_M)) => if x7 = (-1 : Int32) then (j23 M21) else (pm_bd (sR_isMore v20 v22 x8 x9 M21) fun v27 M26 => if ¬ v27 = 0 then (j23 M26) else (pm_lt ((x10 + (1 : Int32))) fun x28 => g5 x7 x8 x9 x28 M26))) else none) else none) else none) else none) else (pm_lt ((x10 + (1 : Int32))) fun x29 => g5 x7 x8 x9 x29 M12)) else none) fun (j11 : Int32 → pm_M → Option (Int32 × pm_M)) => if ¬ (M6.1 50 x10.toNatClampNeg) = 0 then (j11 ((((5 : Int32) * a1) + x10)) M6) else (j11 x10 M6)) else none)) 1000000 (-1 : Int32) (0 : Int64) (1 : Int64) (0 : Int32) M3) else (some ((-3 : Int32), M3)))) else none) else (some ((-2 : Int32), M1))
abbrev I_R_swift (sh : Option (Int32 × pm_M)) (σ : pm_St) : Prop := pm_Im none (pm_Ev 14) pm_T176 (some .int) pm_rI sh σ
set_option maxHeartbeats 4000000 in
set_option maxRecDepth 100000 in
theorem sR_swift_ok (a1 : Int32) (M : pm_M) : ∀ r, sR_swift a1 M = some r → pm_Ev 15 176 [.ref 49, .int a1] M (pm_rI r).1 (pm_rI r).2 := by
  refine pm_meth (al := [some (.ref 49), some (.int a1), none, none, none, none, none, none, none, none, none, none, none]) rfl rfl rfl rfl rfl ?_
  unfold sR_swift
  show I_R_swift _ (0, [some (.ref 49), some (.int a1), none, none, none, none, none, none, none, none, none, none, none], [], M)
  refine pm_irun 1 (σ' := (1, [some (.ref 49), some (.int a1), none, none, none, none, none, none, none, none, none, none, none], [.int a1], M)) rfl ?_
  refine pm_icI (as := [.int a1]) (rest := []) rfl rfl rfl rfl (Nat.le_of_ble_eq_true rfl) rfl (fun r h => pm_Ev_mono (Nat.le_of_ble_eq_true rfl) (sR_isPart_ok a1 M r h)) (fun v2 M1 => ?_)
  show pm_Im _ _ _ _ _ _ (4, [some (.ref 49), some (.int a1), none, none, none, none, none, none, none, none, none, none, none], [.int v2], M1)
  refine pm_iite (σ1 := (10, [some (.ref 49), some (.int a1), none, none, none, none, none, none, none, none, none, none, none], [], M1)) (σ2 := (7, [some (.ref 49), some (.int a1), none, none, none, none, none, none, none, none, none, none, none], [], M1)) rfl (fun _ => ?_) (fun _ => ?_)
  · refine pm_irun 3 (σ' := (15, [some (.ref 49), some (.int a1), none, none, none, none, none, none, none, none, none, none, none], [.int a1, .ref 53], M1)) rfl ?_
    refine pm_igd (σ1 := (16, [some (.ref 49), some (.int a1), none, none, none, none, none, none, none, none, none, none, none], [.int (M1.1 53 a1.toNatClampNeg)], M1)) rfl (fun _ => ?_)
    refine pm_iite (σ1 := (26, [some (.ref 49), some (.int a1), none, none, none, none, none, none, none, none, none, none, none], [], M1)) (σ2 := (19, [some (.ref 49), some (.int a1), none, none, none, none, none, none, none, none, none, none, none], [], M1)) rfl (fun _ => ?_) (fun _ => ?_)
    · refine pm_irun 1 (σ' := (28, [some (.ref 49), some (.int a1), none, none, none, none, none, none, none, none, none, none, none], [.int (-3 : Int32)], M1)) rfl ?_
      exact pm_irI rfl rfl
    · refine pm_irun 1 (σ' := (20, [some (.ref 49), some (.int a1), none, none, none, none, none, none, none, none, none, none, none], [.ref 49], M1)) rfl ?_
      refine pm_icI (as := [.ref 49]) (rest := []) rfl rfl rfl rfl (Nat.le_of_ble_eq_true rfl) rfl (fun r h => pm_Ev_mono (Nat.le_of_ble_eq_true rfl) (sR_isSound_ok M1 r h)) (fun v4 M3 => ?_)
      show pm_Im _ _ _ _ _ _ (23, [some (.ref 49), some (.int a1), none, none, none, none, none, none, none, none, none, none, none], [.int v4], M3)
      refine pm_iite (σ1 := (29, [some (.ref 49), some (.int a1), none, none, none, none, none, none, none, none, none, none, none], [], M3)) (σ2 := (26, [some (.ref 49), some (.int a1), none, none, none, none, none, none, none, none, none, none, none], [], M3)) rfl (fun _ => ?_) (fun _ => ?_)
      · refine pm_irun 2 (σ' := (31, [some (.ref 49), some (.int a1), some (.int (-1 : Int32)), none, none, none, none, none, none, none, none, none, none], [], M3)) rfl ?_
        refine pm_irun 2 (σ' := (33, [some (.ref 49), some (.int a1), some (.int (-1 : Int32)), some (.long (0 : Int64)), none, none, none, none, none, none, none, none, none], [], M3)) rfl ?_
        refine pm_irun 2 (σ' := (36, [some (.ref 49), some (.int a1), some (.int (-1 : Int32)), some (.long (0 : Int64)), none, some (.long (1 : Int64)), none, none, none, none, none, none, none], [], M3)) rfl ?_
        refine pm_irun 2 (σ' := (39, [some (.ref 49), some (.int a1), some (.int (-1 : Int32)), some (.long (0 : Int64)), none, some (.long (1 : Int64)), none, some (.int (0 : Int32)), none, none, none, none, none], [], M3)) rfl ?_
        refine pm_iloop (fun (g : Int32 → Int64 → Int64 → Int32 → pm_M → Option (Int32 × pm_M)) => ∀ (x7 : Int32) (x8 : Int64) (x9 : Int64) (x10 : Int32) (M6 : pm_M), I_R_swift (g x7 x8 x9 x10 M6) (39, [some (.ref 49), some (.int a1), some (.int x7), some (.long x8), none, some (.long x9), none, some (.int x10), none, none, none, none, none], [], M6)) (fun _ _ _ _ _ => pm_inone) (fun g5 hg5 x7 x8 x9 x10 M6 => ?_) 1000000 _ _ _ _ _
        show I_R_swift _ (39, [some (.ref 49), some (.int a1), some (.int x7), some (.long x8), none, some (.long x9), none, some (.int x10), none, none, none, none, none], [], M6)
        refine pm_irun 3 (σ' := (45, [some (.ref 49), some (.int a1), some (.int x7), some (.long x8), none, some (.long x9), none, some (.int x10), none, none, none, none, none], [.int (M6.1 49 1), .int x10], M6)) rfl ?_
        refine pm_iite (σ1 := (195, [some (.ref 49), some (.int a1), some (.int x7), some (.long x8), none, some (.long x9), none, some (.int x10), none, none, none, none, none], [], M6)) (σ2 := (48, [some (.ref 49), some (.int a1), some (.int x7), some (.long x8), none, some (.long x9), none, some (.int x10), none, none, none, none, none], [], M6)) rfl (fun _ => ?_) (fun _ => ?_)
        · refine pm_irun 1 (σ' := (196, [some (.ref 49), some (.int a1), some (.int x7), some (.long x8), none, some (.long x9), none, some (.int x10), none, none, none, none, none], [.int x7], M6)) rfl ?_
          exact pm_irI rfl rfl
        · refine pm_irun 3 (σ' := (54, [some (.ref 49), some (.int a1), some (.int x7), some (.long x8), none, some (.long x9), none, some (.int x10), none, none, none, none, none], [.int x10, .ref 50], M6)) rfl ?_
          refine pm_igd (σ1 := (55, [some (.ref 49), some (.int a1), some (.int x7), some (.long x8), none, some (.long x9), none, some (.int x10), none, none, none, none, none], [.int (M6.1 50 x10.toNatClampNeg)], M6)) rfl (fun _ => ?_)
          refine pm_ijn (fun (g : Int32 → pm_M → Option (Int32 × pm_M)) => ∀ (q13 : Int32) (M12 : pm_M), I_R_swift (g q13 M12) (69, [some (.ref 49), some (.int a1), some (.int x7), some (.long x8), none, some (.long x9), none, some (.int x10), none, none, none, none, none], [.int q13], M12)) (fun (q13 : Int32) (M12 : pm_M) => ?_) (fun j11 hj11 => ?_)
          · show I_R_swift _ (69, [some (.ref 49), some (.int a1), some (.int x7), some (.long x8), none, some (.long x9), none, some (.int x10), none, none, none, none, none], [.int q13], M12)
            refine pm_irun 1 (σ' := (71, [some (.ref 49), some (.int a1), some (.int x7), some (.long x8), none, some (.long x9), none, some (.int x10), some (.int q13), none, none, none, none], [], M12)) rfl ?_
            refine pm_irun 3 (σ' := (77, [some (.ref 49), some (.int a1), some (.int x7), some (.long x8), none, some (.long x9), none, some (.int x10), some (.int q13), none, none, none, none], [.int q13, .ref 51], M12)) rfl ?_
            refine pm_igd (σ1 := (78, [some (.ref 49), some (.int a1), some (.int x7), some (.long x8), none, some (.long x9), none, some (.int x10), some (.int q13), none, none, none, none], [.int (M12.1 51 q13.toNatClampNeg)], M12)) rfl (fun _ => ?_)
            refine pm_irun 1 (σ' := (79, [some (.ref 49), some (.int a1), some (.int x7), some (.long x8), none, some (.long x9), none, some (.int x10), some (.int q13), none, none, none, none], [.int (2 : Int32), .int (M12.1 51 q13.toNatClampNeg)], M12)) rfl ?_
            refine pm_iite (σ1 := (85, [some (.ref 49), some (.int a1), some (.int x7), some (.long x8), none, some (.long x9), none, some (.int x10), some (.int q13), none, none, none, none], [], M12)) (σ2 := (82, [some (.ref 49), some (.int a1), some (.int x7), some (.long x8), none, some (.long x9), none, some (.int x10), some (.int q13), none, none, none, none], [], M12)) rfl (fun _ => ?_) (fun _ => ?_)
            · refine pm_irun 4 (σ' := (92, [some (.ref 49), some (.int a1), some (.int x7), some (.long x8), none, some (.long x9), none, some (.int x10), some (.int q13), none, none, none, none], [.int q13, .ref 51, .int q13, .ref 51], M12)) rfl ?_
              refine pm_igd (σ1 := (93, [some (.ref 49), some (.int a1), some (.int x7), some (.long x8), none, some (.long x9), none, some (.int x10), some (.int q13), none, none, none, none], [.int (M12.1 51 q13.toNatClampNeg), .int q13, .ref 51], M12)) rfl (fun _ => ?_)
              refine pm_irun 2 (σ' := (95, [some (.ref 49), some (.int a1), some (.int x7), some (.long x8), none, some (.long x9), none, some (.int x10), some (.int q13), none, none, none, none], [.int ((M12.1 51 q13.toNatClampNeg) - (1 : Int32)), .int q13, .ref 51], M12)) rfl ?_
              refine pm_igd (σ1 := (96, [some (.ref 49), some (.int a1), some (.int x7), some (.long x8), none, some (.long x9), none, some (.int x10), some (.int q13), none, none, none, none], [], (pm_sI M12 51 q13.toNatClampNeg (((M12.1 51 q13.toNatClampNeg) - (1 : Int32)))))) rfl (fun _ => ?_)
              refine pm_ilt (fun y => (96, [some (.ref 49), some (.int a1), some (.int x7), some (.long x8), none, some (.long x9), none, some (.int x10), some (.int q13), none, none, none, none], [], y)) (fun M14 => ?_)
              refine pm_irun 1 (σ' := (97, [some (.ref 49), some (.int a1), some (.int x7), some (.long x8), none, some (.long x9), none, some (.int x10), some (.int q13), none, none, none, none], [.ref 49], M14)) rfl ?_
              refine pm_icI (as := [.ref 49]) (rest := []) rfl rfl rfl rfl (Nat.le_of_ble_eq_true rfl) rfl (fun r h => pm_Ev_mono (Nat.le_of_ble_eq_true rfl) (sR_isSound_ok M14 r h)) (fun v16 M15 => ?_)
              show pm_Im _ _ _ _ _ _ (100, [some (.ref 49), some (.int a1), some (.int x7), some (.long x8), none, some (.long x9), none, some (.int x10), some (.int q13), none, none, none, none], [.int v16], M15)
              refine pm_irun 5 (σ' := (107, [some (.ref 49), some (.int a1), some (.int x7), some (.long x8), none, some (.long x9), none, some (.int x10), some (.int q13), none, none, none, none], [.int (-1 : Int32), .int (M15.1 49 1), .ref 49], M15)) rfl ?_
              refine pm_icV (as := [.ref 49, .int (M15.1 49 1), .int (-1 : Int32)]) (rest := []) rfl rfl rfl rfl (Nat.le_of_ble_eq_true rfl) rfl (fun r h => pm_Ev_mono (Nat.le_of_ble_eq_true rfl) (sR_constants_ok (M15.1 49 1) (-1 : Int32) M15 r h)) (fun M17 => ?_)
              show pm_Im _ _ _ _ _ _ (110, [some (.ref 49), some (.int a1), some (.int x7), some (.long x8), none, some (.long x9), none, some (.int x10), some (.int q13), none, none, none, none], [], M17)
              refine pm_irun 4 (σ' := (117, [some (.ref 49), some (.int a1), some (.int x7), some (.long x8), none, some (.long x9), none, some (.int x10), some (.int q13), none, none, none, none], [.int q13, .ref 51, .int q13, .ref 51], M17)) rfl ?_
              refine pm_igd (σ1 := (118, [some (.ref 49), some (.int a1), some (.int x7), some (.long x8), none, some (.long x9), none, some (.int x10), some (.int q13), none, none, none, none], [.int (M17.1 51 q13.toNatClampNeg), .int q13, .ref 51], M17)) rfl (fun _ => ?_)
              refine pm_irun 2 (σ' := (120, [some (.ref 49), some (.int a1), some (.int x7), some (.long x8), none, some (.long x9), none, some (.int x10), some (.int q13), none, none, none, none], [.int ((M17.1 51 q13.toNatClampNeg) + (1 : Int32)), .int q13, .ref 51], M17)) rfl ?_
              refine pm_igd (σ1 := (121, [some (.ref 49), some (.int a1), some (.int x7), some (.long x8), none, some (.long x9), none, some (.int x10), some (.int q13), none, none, none, none], [], (pm_sI M17 51 q13.toNatClampNeg (((M17.1 51 q13.toNatClampNeg) + (1 : Int32)))))) rfl (fun _ => ?_)
              refine pm_ilt (fun y => (121, [some (.ref 49), some (.int a1), some (.int x7), some (.long x8), none, some (.long x9), none, some (.int x10), some (.int q13), none, none, none, none], [], y)) (fun M18 => ?_)
              refine pm_irun 5 (σ' := (128, [some (.ref 49), some (.int a1), some (.int x7), some (.long x8), none, some (.long x9), none, some (.int x10), some (.int q13), none, none, none, none], [.int (0 : Int32), .ref 53, .int a1, .ref 49], M18)) rfl ?_
              refine pm_igt (c := pm_in (0 : Int32) 2) (σ1 := (129, [some (.ref 49), some (.int a1), some (.int x7), some (.long x8), none, some (.long x9), none, some (.int x10), some (.int q13), none, none, none, none], [.int (M18.1 53 0), .int a1, .ref 49], M18)) (by decide) rfl ?_
              refine pm_irun 3 (σ' := (134, [some (.ref 49), some (.int a1), some (.int x7), some (.long x8), none, some (.long x9), none, some (.int x10), some (.int q13), none, none, none, none], [.int (1 : Int32), .ref 53, .int (M18.1 53 0), .int a1, .ref 49], M18)) rfl ?_
              refine pm_igt (c := pm_in (1 : Int32) 2) (σ1 := (135, [some (.ref 49), some (.int a1), some (.int x7), some (.long x8), none, some (.long x9), none, some (.int x10), some (.int q13), none, none, none, none], [.int (M18.1 53 1), .int (M18.1 53 0), .int a1, .ref 49], M18)) (by decide) rfl ?_
              refine pm_icL (as := [.ref 49, .int a1, .int (M18.1 53 0), .int (M18.1 53 1)]) (rest := []) rfl rfl rfl rfl (Nat.le_of_ble_eq_true rfl) rfl (fun r h => pm_Ev_mono (Nat.le_of_ble_eq_true rfl) (sR_rateAbove_ok a1 (M18.1 53 0) (M18.1 53 1) M18 r h)) (fun v20 M19 => ?_)
              show pm_Im _ _ _ _ _ _ (138, [some (.ref 49), some (.int a1), some (.int x7), some (.long x8), none, some (.long x9), none, some (.int x10), some (.int q13), none, none, none, none], [.long v20], M19)
              refine pm_irun 1 (σ' := (140, [some (.ref 49), some (.int a1), some (.int x7), some (.long x8), none, some (.long x9), none, some (.int x10), some (.int q13), some (.long v20), none, none, none], [], M19)) rfl ?_
              refine pm_irun 4 (σ' := (146, [some (.ref 49), some (.int a1), some (.int x7), some (.long x8), none, some (.long x9), none, some (.int x10), some (.int q13), some (.long v20), none, none, none], [.int (0 : Int32), .ref 53, .ref 49], M19)) rfl ?_
              refine pm_igt (c := pm_in (0 : Int32) 2) (σ1 := (147, [some (.ref 49), some (.int a1), some (.int x7), some (.long x8), none, some (.long x9), none, some (.int x10), some (.int q13), some (.long v20), none, none, none], [.int (M19.1 53 0), .ref 49], M19)) (by decide) rfl ?_
              refine pm_irun 3 (σ' := (152, [some (.ref 49), some (.int a1), some (.int x7), some (.long x8), none, some (.long x9), none, some (.int x10), some (.int q13), some (.long v20), none, none, none], [.int (1 : Int32), .ref 53, .int (M19.1 53 0), .ref 49], M19)) rfl ?_
              refine pm_igt (c := pm_in (1 : Int32) 2) (σ1 := (153, [some (.ref 49), some (.int a1), some (.int x7), some (.long x8), none, some (.long x9), none, some (.int x10), some (.int q13), some (.long v20), none, none, none], [.int (M19.1 53 1), .int (M19.1 53 0), .ref 49], M19)) (by decide) rfl ?_
              refine pm_icL (as := [.ref 49, .int (M19.1 53 0), .int (M19.1 53 1)]) (rest := []) rfl rfl rfl rfl (Nat.le_of_ble_eq_true rfl) rfl (fun r h => pm_Ev_mono (Nat.le_of_ble_eq_true rfl) (sR_whole_ok (M19.1 53 0) (M19.1 53 1) M19 r h)) (fun v22 M21 => ?_)
              show pm_Im _ _ _ _ _ _ (156, [some (.ref 49), some (.int a1), some (.int x7), some (.long x8), none, some (.long x9), none, some (.int x10), some (.int q13), some (.long v20), none, none, none], [.long v22], M21)
              refine pm_irun 1 (σ' := (158, [some (.ref 49), some (.int a1), some (.int x7), some (.long x8), none, some (.long x9), none, some (.int x10), some (.int q13), some (.long v20), none, some (.long v22), none], [], M21)) rfl ?_
              refine pm_irun 2 (σ' := (160, [some (.ref 49), some (.int a1), some (.int x7), some (.long x8), none, some (.long x9), none, some (.int x10), some (.int q13), some (.long v20), none, some (.long v22), none], [.int (-1 : Int32), .int x7], M21)) rfl ?_
              refine pm_ijn (fun (g : pm_M → Option (Int32 × pm_M)) => ∀ (M24 : pm_M), I_R_swift (g M24) (179, [some (.ref 49), some (.int a1), none, none, none, none, none, some (.int x10), none, some (.long v20), none, some (.long v22), none], [], M24)) (fun (M24 : pm_M) => ?_) (fun j23 hj23 => ?_)
              · show I_R_swift _ (179, [some (.ref 49), some (.int a1), none, none, none, none, none, some (.int x10), none, some (.long v20), none, some (.long v22), none], [], M24)
                refine pm_irun 2 (σ' := (182, [some (.ref 49), some (.int a1), some (.int x10), none, none, none, none, some (.int x10), none, some (.long v20), none, some (.long v22), none], [], M24)) rfl ?_
                refine pm_irun 2 (σ' := (185, [some (.ref 49), some (.int a1), some (.int x10), some (.long v20), none, none, none, some (.int x10), none, some (.long v20), none, some (.long v22), none], [], M24)) rfl ?_
                refine pm_irun 2 (σ' := (189, [some (.ref 49), some (.int a1), some (.int x10), some (.long v20), none, some (.long v22), none, some (.int x10), none, some (.long v20), none, some (.long v22), none], [], M24)) rfl ?_
                refine pm_irun 1 (σ' := (192, [some (.ref 49), some (.int a1), some (.int x10), some (.long v20), none, some (.long v22), none, some (.int (x10 + (1 : Int32))), none, some (.long v20), none, some (.long v22), none], [], M24)) rfl ?_
                refine pm_ilt (fun y => (192, [some (.ref 49), some (.int a1), some (.int x10), some (.long v20), none, some (.long v22), none, some (.int y), none, some (.long v20), none, some (.long v22), none], [], M24)) (fun x25 => ?_)
                refine pm_irun 1 (σ' := (39, [some (.ref 49), some (.int a1), some (.int x10), some (.long v20), none, some (.long v22), none, some (.int x25), none, some (.long v20), none, some (.long v22), none], [], M24)) rfl ?_
                refine pm_iwk (al' := [some (.ref 49), some (.int a1), some (.int x10), some (.long v20), none, some (.long v22), none, some (.int x25), none, none, none, none, none]) (pm_wkS (pm_wkS (pm_wkS (pm_wkS (pm_wkS (pm_wkS (pm_wkS (pm_wkS (pm_wkS (pm_wkN (pm_wkS (pm_wkN (pm_wkS pm_wk0))))))))))))) ?_
                exact hg5 _ _ _ _ _
              refine pm_iite (σ1 := (179, [some (.ref 49), some (.int a1), some (.int x7), some (.long x8), none, some (.long x9), none, some (.int x10), some (.int q13), some (.long v20), none, some (.long v22), none], [], M21)) (σ2 := (163, [some (.ref 49), some (.int a1), some (.int x7), some (.long x8), none, some (.long x9), none, some (.int x10), some (.int q13), some (.long v20), none, some (.long v22), none], [], M21)) rfl (fun _ => ?_) (fun _ => ?_)
              · refine pm_iwk (al' := [some (.ref 49), some (.int a1), none, none, none, none, none, some (.int x10), none, some (.long v20), none, some (.long v22), none]) (pm_wkS (pm_wkS (pm_wkN (pm_wkN (pm_wkS (pm_wkN (pm_wkS (pm_wkS (pm_wkN (pm_wkS (pm_wkS (pm_wkS (pm_wkS pm_wk0))))))))))))) ?_
                exact hj23 _
              · refine pm_irun 4 (σ' := (170, [some (.ref 49), some (.int a1), some (.int x7), some (.long x8), none, some (.long x9), none, some (.int x10), some (.int q13), some (.long v20), none, some (.long v22), none], [.long x9, .long x8, .long v22, .long v20], M21)) rfl ?_
                refine pm_icI (as := [.long v20, .long v22, .long x8, .long x9]) (rest := []) rfl rfl rfl rfl (Nat.le_of_ble_eq_true rfl) rfl (fun r h => pm_Ev_mono (Nat.le_of_ble_eq_true rfl) (sR_isMore_ok v20 v22 x8 x9 M21 r h)) (fun v27 M26 => ?_)
                show pm_Im _ _ _ _ _ _ (173, [some (.ref 49), some (.int a1), some (.int x7), some (.long x8), none, some (.long x9), none, some (.int x10), some (.int q13), some (.long v20), none, some (.long v22), none], [.int v27], M26)
                refine pm_iite (σ1 := (179, [some (.ref 49), some (.int a1), some (.int x7), some (.long x8), none, some (.long x9), none, some (.int x10), some (.int q13), some (.long v20), none, some (.long v22), none], [], M26)) (σ2 := (176, [some (.ref 49), some (.int a1), some (.int x7), some (.long x8), none, some (.long x9), none, some (.int x10), some (.int q13), some (.long v20), none, some (.long v22), none], [], M26)) rfl (fun _ => ?_) (fun _ => ?_)
                · refine pm_iwk (al' := [some (.ref 49), some (.int a1), none, none, none, none, none, some (.int x10), none, some (.long v20), none, some (.long v22), none]) (pm_wkS (pm_wkS (pm_wkN (pm_wkN (pm_wkS (pm_wkN (pm_wkS (pm_wkS (pm_wkN (pm_wkS (pm_wkS (pm_wkS (pm_wkS pm_wk0))))))))))))) ?_
                  exact hj23 _
                · refine pm_irun 2 (σ' := (192, [some (.ref 49), some (.int a1), some (.int x7), some (.long x8), none, some (.long x9), none, some (.int (x10 + (1 : Int32))), some (.int q13), some (.long v20), none, some (.long v22), none], [], M26)) rfl ?_
                  refine pm_ilt (fun y => (192, [some (.ref 49), some (.int a1), some (.int x7), some (.long x8), none, some (.long x9), none, some (.int y), some (.int q13), some (.long v20), none, some (.long v22), none], [], M26)) (fun x28 => ?_)
                  refine pm_irun 1 (σ' := (39, [some (.ref 49), some (.int a1), some (.int x7), some (.long x8), none, some (.long x9), none, some (.int x28), some (.int q13), some (.long v20), none, some (.long v22), none], [], M26)) rfl ?_
                  refine pm_iwk (al' := [some (.ref 49), some (.int a1), some (.int x7), some (.long x8), none, some (.long x9), none, some (.int x28), none, none, none, none, none]) (pm_wkS (pm_wkS (pm_wkS (pm_wkS (pm_wkS (pm_wkS (pm_wkS (pm_wkS (pm_wkN (pm_wkN (pm_wkS (pm_wkN (pm_wkS pm_wk0))))))))))))) ?_
                  exact hg5 _ _ _ _ _
            · refine pm_irun 2 (σ' := (192, [some (.ref 49), some (.int a1), some (.int x7), some (.long x8), none, some (.long x9), none, some (.int (x10 + (1 : Int32))), some (.int q13), none, none, none, none], [], M12)) rfl ?_
              refine pm_ilt (fun y => (192, [some (.ref 49), some (.int a1), some (.int x7), some (.long x8), none, some (.long x9), none, some (.int y), some (.int q13), none, none, none, none], [], M12)) (fun x29 => ?_)
              refine pm_irun 1 (σ' := (39, [some (.ref 49), some (.int a1), some (.int x7), some (.long x8), none, some (.long x9), none, some (.int x29), some (.int q13), none, none, none, none], [], M12)) rfl ?_
              refine pm_iwk (al' := [some (.ref 49), some (.int a1), some (.int x7), some (.long x8), none, some (.long x9), none, some (.int x29), none, none, none, none, none]) (pm_wkS (pm_wkS (pm_wkS (pm_wkS (pm_wkS (pm_wkS (pm_wkS (pm_wkS (pm_wkN (pm_wkS (pm_wkS (pm_wkS (pm_wkS pm_wk0))))))))))))) ?_
              exact hg5 _ _ _ _ _
          refine pm_iite (σ1 := (63, [some (.ref 49), some (.int a1), some (.int x7), some (.long x8), none, some (.long x9), none, some (.int x10), none, none, none, none, none], [], M6)) (σ2 := (58, [some (.ref 49), some (.int a1), some (.int x7), some (.long x8), none, some (.long x9), none, some (.int x10), none, none, none, none, none], [], M6)) rfl (fun _ => ?_) (fun _ => ?_)
          · refine pm_irun 5 (σ' := (69, [some (.ref 49), some (.int a1), some (.int x7), some (.long x8), none, some (.long x9), none, some (.int x10), none, none, none, none, none], [.int (((5 : Int32) * a1) + x10)], M6)) rfl ?_
            exact hj11 _ _
          · refine pm_irun 2 (σ' := (69, [some (.ref 49), some (.int a1), some (.int x7), some (.long x8), none, some (.long x9), none, some (.int x10), none, none, none, none, none], [.int x10], M6)) rfl ?_
            exact hj11 _ _
      · refine pm_irun 1 (σ' := (28, [some (.ref 49), some (.int a1), none, none, none, none, none, none, none, none, none, none, none], [.int (-3 : Int32)], M3)) rfl ?_
        exact pm_irI rfl rfl
  · refine pm_irun 1 (σ' := (9, [some (.ref 49), some (.int a1), none, none, none, none, none, none, none, none, none, none, none], [.int (-2 : Int32)], M1)) rfl ?_
    exact pm_irI rfl rfl
def sTruth_standLast (a1 : Int32) (a2 : Int32) (M : pm_M) : Option (pm_M) := if pm_in a2 5 then (if (M.1 32 a2.toNatClampNeg) < (8 : Int32) then (if pm_in a2 5 then (if pm_in ((a2 * (8 : Int32)) + (M.1 32 a2.toNatClampNeg)) 40 then (pm_lt (pm_sI M 31 ((a2 * (8 : Int32)) + (M.1 32 a2.toNatClampNeg)).toNatClampNeg a1) fun M1 => if pm_in a2 5 then (if pm_in a2 5 then (pm_lt (pm_sI M1 32 a2.toNatClampNeg (((M1.1 32 a2.toNatClampNeg) + (1 : Int32)))) fun M2 => some M2) else none) else none) else none) else none) else (some M)) else none
abbrev I_Truth_standLast (sh : Option (pm_M)) (σ : pm_St) : Prop := pm_Im none (pm_Ev 0) pm_T51 none pm_rV sh σ
set_option maxHeartbeats 4000000 in
set_option maxRecDepth 100000 in
theorem sTruth_standLast_ok (a1 : Int32) (a2 : Int32) (M : pm_M) : ∀ r, sTruth_standLast a1 a2 M = some r → pm_Ev 1 51 [.ref 30, .int a1, .int a2] M (pm_rV r).1 (pm_rV r).2 := by
  refine pm_meth (al := [some (.ref 30), some (.int a1), some (.int a2)]) rfl rfl rfl rfl rfl ?_
  unfold sTruth_standLast
  show I_Truth_standLast _ (0, [some (.ref 30), some (.int a1), some (.int a2)], [], M)
  refine pm_irun 3 (σ' := (5, [some (.ref 30), some (.int a1), some (.int a2)], [.int a2, .ref 32], M)) rfl ?_
  refine pm_igd (σ1 := (6, [some (.ref 30), some (.int a1), some (.int a2)], [.int (M.1 32 a2.toNatClampNeg)], M)) rfl (fun _ => ?_)
  refine pm_irun 1 (σ' := (8, [some (.ref 30), some (.int a1), some (.int a2)], [.int (8 : Int32), .int (M.1 32 a2.toNatClampNeg)], M)) rfl ?_
  refine pm_iite (σ1 := (12, [some (.ref 30), some (.int a1), some (.int a2)], [], M)) (σ2 := (11, [some (.ref 30), some (.int a1), some (.int a2)], [], M)) rfl (fun _ => ?_) (fun _ => ?_)
  · refine pm_irun 8 (σ' := (25, [some (.ref 30), some (.int a1), some (.int a2)], [.int a2, .ref 32, .int (a2 * (8 : Int32)), .ref 31], M)) rfl ?_
    refine pm_igd (σ1 := (26, [some (.ref 30), some (.int a1), some (.int a2)], [.int (M.1 32 a2.toNatClampNeg), .int (a2 * (8 : Int32)), .ref 31], M)) rfl (fun _ => ?_)
    refine pm_irun 2 (σ' := (28, [some (.ref 30), some (.int a1), some (.int a2)], [.int a1, .int ((a2 * (8 : Int32)) + (M.1 32 a2.toNatClampNeg)), .ref 31], M)) rfl ?_
    refine pm_igd (σ1 := (29, [some (.ref 30), some (.int a1), some (.int a2)], [], (pm_sI M 31 ((a2 * (8 : Int32)) + (M.1 32 a2.toNatClampNeg)).toNatClampNeg a1))) rfl (fun _ => ?_)
    refine pm_ilt (fun y => (29, [some (.ref 30), some (.int a1), some (.int a2)], [], y)) (fun M1 => ?_)
    refine pm_irun 4 (σ' := (35, [some (.ref 30), some (.int a1), some (.int a2)], [.int a2, .ref 32, .int a2, .ref 32], M1)) rfl ?_
    refine pm_igd (σ1 := (36, [some (.ref 30), some (.int a1), some (.int a2)], [.int (M1.1 32 a2.toNatClampNeg), .int a2, .ref 32], M1)) rfl (fun _ => ?_)
    refine pm_irun 2 (σ' := (38, [some (.ref 30), some (.int a1), some (.int a2)], [.int ((M1.1 32 a2.toNatClampNeg) + (1 : Int32)), .int a2, .ref 32], M1)) rfl ?_
    refine pm_igd (σ1 := (39, [some (.ref 30), some (.int a1), some (.int a2)], [], (pm_sI M1 32 a2.toNatClampNeg (((M1.1 32 a2.toNatClampNeg) + (1 : Int32)))))) rfl (fun _ => ?_)
    refine pm_ilt (fun y => (39, [some (.ref 30), some (.int a1), some (.int a2)], [], y)) (fun M2 => ?_)
    exact pm_irV rfl rfl
  · exact pm_irV rfl rfl
def sTruth_classOf (a1 : Int32) (M : pm_M) : Option (Int32 × pm_M) := if (M.1 30 2) ≤ a1 then (some ((1 : Int32), M)) else (some ((0 : Int32), M))
abbrev I_Truth_classOf (sh : Option (Int32 × pm_M)) (σ : pm_St) : Prop := pm_Im none (pm_Ev 0) pm_T49 (some .int) pm_rI sh σ
set_option maxHeartbeats 4000000 in
set_option maxRecDepth 100000 in
theorem sTruth_classOf_ok (a1 : Int32) (M : pm_M) : ∀ r, sTruth_classOf a1 M = some r → pm_Ev 1 49 [.ref 30, .int a1] M (pm_rI r).1 (pm_rI r).2 := by
  refine pm_meth (al := [some (.ref 30), some (.int a1)]) rfl rfl rfl rfl rfl ?_
  unfold sTruth_classOf
  show I_Truth_classOf _ (0, [some (.ref 30), some (.int a1)], [], M)
  refine pm_irun 3 (σ' := (5, [some (.ref 30), some (.int a1)], [.int (M.1 30 2), .int a1], M)) rfl ?_
  refine pm_iite (σ1 := (12, [some (.ref 30), some (.int a1)], [], M)) (σ2 := (8, [some (.ref 30), some (.int a1)], [], M)) rfl (fun _ => ?_) (fun _ => ?_)
  · refine pm_irun 1 (σ' := (13, [some (.ref 30), some (.int a1)], [.int (1 : Int32)], M)) rfl ?_
    exact pm_irI rfl rfl
  · refine pm_irun 2 (σ' := (13, [some (.ref 30), some (.int a1)], [.int (0 : Int32)], M)) rfl ?_
    exact pm_irI rfl rfl
def sTruth_arrive (a2 : Int32) (a3 : Int32) (M : pm_M) : Option (pm_M) := pm_bd (sNet_hasStation_1 a3 M) fun v2 M1 => if ¬ v2 = 0 then (pm_bv (sTruth_standLast a2 a3 M1) fun M3 => if pm_in a2 8 then (pm_lt (pm_sI M3 33 a2.toNatClampNeg a3) fun M4 => pm_bd (sTruth_classOf a2 M4) fun v6 M5 => pm_bd (sNet_timeOf_1 v6 a3 M5) fun v8 M7 => if pm_in a2 8 then (pm_lt (pm_sI M7 34 a2.toNatClampNeg v8) fun M9 => some M9) else none) else none) else (some M1)
abbrev I_Truth_arrive (sh : Option (pm_M)) (σ : pm_St) : Prop := pm_Im none (pm_Ev 1) pm_T50 none pm_rV sh σ
set_option maxHeartbeats 4000000 in
set_option maxRecDepth 100000 in
theorem sTruth_arrive_ok (a2 : Int32) (a3 : Int32) (M : pm_M) : ∀ r, sTruth_arrive a2 a3 M = some r → pm_Ev 2 50 [.ref 30, .ref 1, .int a2, .int a3] M (pm_rV r).1 (pm_rV r).2 := by
  refine pm_meth (al := [some (.ref 30), some (.ref 1), some (.int a2), some (.int a3)]) rfl rfl rfl rfl rfl ?_
  unfold sTruth_arrive
  show I_Truth_arrive _ (0, [some (.ref 30), some (.ref 1), some (.int a2), some (.int a3)], [], M)
  refine pm_irun 2 (σ' := (2, [some (.ref 30), some (.ref 1), some (.int a2), some (.int a3)], [.int a3, .ref 1], M)) rfl ?_
  refine pm_icI (as := [.ref 1, .int a3]) (rest := []) rfl rfl rfl rfl (Nat.le_of_ble_eq_true rfl) rfl (fun r h => pm_Ev_mono (Nat.le_of_ble_eq_true rfl) (sNet_hasStation_1_ok a3 M r h)) (fun v2 M1 => ?_)
  show pm_Im _ _ _ _ _ _ (5, [some (.ref 30), some (.ref 1), some (.int a2), some (.int a3)], [.int v2], M1)
  refine pm_iite (σ1 := (9, [some (.ref 30), some (.ref 1), some (.int a2), some (.int a3)], [], M1)) (σ2 := (8, [some (.ref 30), some (.ref 1), some (.int a2), some (.int a3)], [], M1)) rfl (fun _ => ?_) (fun _ => ?_)
  · refine pm_irun 3 (σ' := (12, [some (.ref 30), some (.ref 1), some (.int a2), some (.int a3)], [.int a3, .int a2, .ref 30], M1)) rfl ?_
    refine pm_icV (as := [.ref 30, .int a2, .int a3]) (rest := []) rfl rfl rfl rfl (Nat.le_of_ble_eq_true rfl) rfl (fun r h => pm_Ev_mono (Nat.le_of_ble_eq_true rfl) (sTruth_standLast_ok a2 a3 M1 r h)) (fun M3 => ?_)
    show pm_Im _ _ _ _ _ _ (15, [some (.ref 30), some (.ref 1), some (.int a2), some (.int a3)], [], M3)
    refine pm_irun 4 (σ' := (21, [some (.ref 30), some (.ref 1), some (.int a2), some (.int a3)], [.int a3, .int a2, .ref 33], M3)) rfl ?_
    refine pm_igd (σ1 := (22, [some (.ref 30), some (.ref 1), some (.int a2), some (.int a3)], [], (pm_sI M3 33 a2.toNatClampNeg a3))) rfl (fun _ => ?_)
    refine pm_ilt (fun y => (22, [some (.ref 30), some (.ref 1), some (.int a2), some (.int a3)], [], y)) (fun M4 => ?_)
    refine pm_irun 6 (σ' := (30, [some (.ref 30), some (.ref 1), some (.int a2), some (.int a3)], [.int a2, .ref 30, .ref 1, .int a2, .ref 34], M4)) rfl ?_
    refine pm_icI (as := [.ref 30, .int a2]) (rest := [.ref 1, .int a2, .ref 34]) rfl rfl rfl rfl (Nat.le_of_ble_eq_true rfl) rfl (fun r h => pm_Ev_mono (Nat.le_of_ble_eq_true rfl) (sTruth_classOf_ok a2 M4 r h)) (fun v6 M5 => ?_)
    show pm_Im _ _ _ _ _ _ (33, [some (.ref 30), some (.ref 1), some (.int a2), some (.int a3)], [.int v6, .ref 1, .int a2, .ref 34], M5)
    refine pm_irun 1 (σ' := (34, [some (.ref 30), some (.ref 1), some (.int a2), some (.int a3)], [.int a3, .int v6, .ref 1, .int a2, .ref 34], M5)) rfl ?_
    refine pm_icI (as := [.ref 1, .int v6, .int a3]) (rest := [.int a2, .ref 34]) rfl rfl rfl rfl (Nat.le_of_ble_eq_true rfl) rfl (fun r h => pm_Ev_mono (Nat.le_of_ble_eq_true rfl) (sNet_timeOf_1_ok v6 a3 M5 r h)) (fun v8 M7 => ?_)
    show pm_Im _ _ _ _ _ _ (37, [some (.ref 30), some (.ref 1), some (.int a2), some (.int a3)], [.int v8, .int a2, .ref 34], M7)
    refine pm_igd (σ1 := (38, [some (.ref 30), some (.ref 1), some (.int a2), some (.int a3)], [], (pm_sI M7 34 a2.toNatClampNeg v8))) rfl (fun _ => ?_)
    refine pm_ilt (fun y => (38, [some (.ref 30), some (.ref 1), some (.int a2), some (.int a3)], [], y)) (fun M9 => ?_)
    exact pm_irV rfl rfl
  · exact pm_irV rfl rfl
def sTruth_beginAtHomes  (M : pm_M) : Option (pm_M) := pm_bv (sTruth_forget M) fun M1 => pm_lt (pm_sI M1 30 0 (1 : Int32)) fun M2 => pm_lt (pm_sI M2 30 2 ((M2.1 5 0))) fun M3 => pm_loop (fun _ _ => none) (fun (g4 : Int32 → pm_M → Option (pm_M)) x6 M5 => if (2 : Int32) ≤ x6 then (some M5) else (pm_loop (fun _ _ => none) (fun (g7 : Int32 → pm_M → Option (pm_M)) x9 M8 => if pm_in x6 2 then (if (M8.1 5 x6.toNatClampNeg) ≤ x9 then (pm_lt ((x6 + (1 : Int32))) fun x10 => g4 x10 M8) else (if (8 : Int32) ≤ (M8.1 30 1) then (pm_lt ((x6 + (1 : Int32))) fun x11 => g4 x11 M8) else (pm_lt (pm_sI M8 30 1 (((M8.1 30 1) + (1 : Int32)))) fun M12 => if pm_in x6 2 then (pm_bv (sTruth_arrive ((M12.1 30 1) - (1 : Int32)) (M12.1 4 x6.toNatClampNeg) M12) fun M13 => pm_lt ((x9 + (1 : Int32))) fun x14 => g7 x14 M13) else none))) else none) 1000000 (0 : Int32) M5)) 1000000 (0 : Int32) M3
abbrev I_Truth_beginAtHomes (sh : Option (pm_M)) (σ : pm_St) : Prop := pm_Im none (pm_Ev 2) pm_T46 none pm_rV sh σ
set_option maxHeartbeats 4000000 in
set_option maxRecDepth 100000 in
theorem sTruth_beginAtHomes_ok  (M : pm_M) : ∀ r, sTruth_beginAtHomes  M = some r → pm_Ev 3 46 [.ref 30, .ref 1] M (pm_rV r).1 (pm_rV r).2 := by
  refine pm_meth (al := [some (.ref 30), some (.ref 1), none, none]) rfl rfl rfl rfl rfl ?_
  unfold sTruth_beginAtHomes
  show I_Truth_beginAtHomes _ (0, [some (.ref 30), some (.ref 1), none, none], [], M)
  refine pm_irun 1 (σ' := (1, [some (.ref 30), some (.ref 1), none, none], [.ref 30], M)) rfl ?_
  refine pm_icV (as := [.ref 30]) (rest := []) rfl rfl rfl rfl (Nat.le_of_ble_eq_true rfl) rfl (fun r h => pm_Ev_mono (Nat.le_of_ble_eq_true rfl) (sTruth_forget_ok M r h)) (fun M1 => ?_)
  show pm_Im _ _ _ _ _ _ (4, [some (.ref 30), some (.ref 1), none, none], [], M1)
  refine pm_irun 2 (σ' := (6, [some (.ref 30), some (.ref 1), none, none], [.int (1 : Int32), .ref 30], M1)) rfl ?_
  refine pm_igt (c := (1 : Int32) = 0 ∨ (1 : Int32) = 1) (σ1 := (9, [some (.ref 30), some (.ref 1), none, none], [], (pm_sI M1 30 0 (1 : Int32)))) (by decide) rfl ?_
  refine pm_ilt (fun y => (9, [some (.ref 30), some (.ref 1), none, none], [], y)) (fun M2 => ?_)
  refine pm_irun 4 (σ' := (15, [some (.ref 30), some (.ref 1), none, none], [.int (0 : Int32), .ref 5, .ref 30], M2)) rfl ?_
  refine pm_igt (c := pm_in (0 : Int32) 2) (σ1 := (16, [some (.ref 30), some (.ref 1), none, none], [.int (M2.1 5 0), .ref 30], M2)) (by decide) rfl ?_
  refine pm_irun 1 (σ' := (19, [some (.ref 30), some (.ref 1), none, none], [], (pm_sI M2 30 2 ((M2.1 5 0))))) rfl ?_
  refine pm_ilt (fun y => (19, [some (.ref 30), some (.ref 1), none, none], [], y)) (fun M3 => ?_)
  refine pm_irun 2 (σ' := (21, [some (.ref 30), some (.ref 1), some (.int (0 : Int32)), none], [], M3)) rfl ?_
  refine pm_iloop (fun (g : Int32 → pm_M → Option (pm_M)) => ∀ (x6 : Int32) (M5 : pm_M), I_Truth_beginAtHomes (g x6 M5) (21, [some (.ref 30), some (.ref 1), some (.int x6), none], [], M5)) (fun _ _ => pm_inone) (fun g4 hg4 x6 M5 => ?_) 1000000 _ _
  show I_Truth_beginAtHomes _ (21, [some (.ref 30), some (.ref 1), some (.int x6), none], [], M5)
  refine pm_irun 2 (σ' := (23, [some (.ref 30), some (.ref 1), some (.int x6), none], [.int (2 : Int32), .int x6], M5)) rfl ?_
  refine pm_iite (σ1 := (86, [some (.ref 30), some (.ref 1), some (.int x6), none], [], M5)) (σ2 := (26, [some (.ref 30), some (.ref 1), some (.int x6), none], [], M5)) rfl (fun _ => ?_) (fun _ => ?_)
  · exact pm_irV rfl rfl
  · refine pm_irun 2 (σ' := (28, [some (.ref 30), some (.ref 1), some (.int x6), some (.int (0 : Int32))], [], M5)) rfl ?_
    refine pm_iloop (fun (g : Int32 → pm_M → Option (pm_M)) => ∀ (x9 : Int32) (M8 : pm_M), I_Truth_beginAtHomes (g x9 M8) (28, [some (.ref 30), some (.ref 1), some (.int x6), some (.int x9)], [], M8)) (fun _ _ => pm_inone) (fun g7 hg7 x9 M8 => ?_) 1000000 _ _
    show I_Truth_beginAtHomes _ (28, [some (.ref 30), some (.ref 1), some (.int x6), some (.int x9)], [], M8)
    refine pm_irun 4 (σ' := (34, [some (.ref 30), some (.ref 1), some (.int x6), some (.int x9)], [.int x6, .ref 5, .int x9], M8)) rfl ?_
    refine pm_igd (σ1 := (35, [some (.ref 30), some (.ref 1), some (.int x6), some (.int x9)], [.int (M8.1 5 x6.toNatClampNeg), .int x9], M8)) rfl (fun _ => ?_)
    refine pm_iite (σ1 := (80, [some (.ref 30), some (.ref 1), some (.int x6), some (.int x9)], [], M8)) (σ2 := (38, [some (.ref 30), some (.ref 1), some (.int x6), some (.int x9)], [], M8)) rfl (fun _ => ?_) (fun _ => ?_)
    · refine pm_irun 1 (σ' := (83, [some (.ref 30), some (.ref 1), some (.int (x6 + (1 : Int32))), some (.int x9)], [], M8)) rfl ?_
      refine pm_ilt (fun y => (83, [some (.ref 30), some (.ref 1), some (.int y), some (.int x9)], [], M8)) (fun x10 => ?_)
      refine pm_irun 1 (σ' := (21, [some (.ref 30), some (.ref 1), some (.int x10), some (.int x9)], [], M8)) rfl ?_
      refine pm_iwk (al' := [some (.ref 30), some (.ref 1), some (.int x10), none]) (pm_wkS (pm_wkS (pm_wkS (pm_wkN pm_wk0)))) ?_
      exact hg4 _ _
    · refine pm_irun 3 (σ' := (44, [some (.ref 30), some (.ref 1), some (.int x6), some (.int x9)], [.int (8 : Int32), .int (M8.1 30 1)], M8)) rfl ?_
      refine pm_iite (σ1 := (80, [some (.ref 30), some (.ref 1), some (.int x6), some (.int x9)], [], M8)) (σ2 := (47, [some (.ref 30), some (.ref 1), some (.int x6), some (.int x9)], [], M8)) rfl (fun _ => ?_) (fun _ => ?_)
      · refine pm_irun 1 (σ' := (83, [some (.ref 30), some (.ref 1), some (.int (x6 + (1 : Int32))), some (.int x9)], [], M8)) rfl ?_
        refine pm_ilt (fun y => (83, [some (.ref 30), some (.ref 1), some (.int y), some (.int x9)], [], M8)) (fun x11 => ?_)
        refine pm_irun 1 (σ' := (21, [some (.ref 30), some (.ref 1), some (.int x11), some (.int x9)], [], M8)) rfl ?_
        refine pm_iwk (al' := [some (.ref 30), some (.ref 1), some (.int x11), none]) (pm_wkS (pm_wkS (pm_wkS (pm_wkN pm_wk0)))) ?_
        exact hg4 _ _
      · refine pm_irun 5 (σ' := (54, [some (.ref 30), some (.ref 1), some (.int x6), some (.int x9)], [.int ((M8.1 30 1) + (1 : Int32)), .ref 30], M8)) rfl ?_
        refine pm_irun 1 (σ' := (57, [some (.ref 30), some (.ref 1), some (.int x6), some (.int x9)], [], (pm_sI M8 30 1 (((M8.1 30 1) + (1 : Int32)))))) rfl ?_
        refine pm_ilt (fun y => (57, [some (.ref 30), some (.ref 1), some (.int x6), some (.int x9)], [], y)) (fun M12 => ?_)
        refine pm_irun 8 (σ' := (69, [some (.ref 30), some (.ref 1), some (.int x6), some (.int x9)], [.ref 4, .int ((M12.1 30 1) - (1 : Int32)), .ref 1, .ref 30], M12)) rfl ?_
        refine pm_irun 1 (σ' := (70, [some (.ref 30), some (.ref 1), some (.int x6), some (.int x9)], [.int x6, .ref 4, .int ((M12.1 30 1) - (1 : Int32)), .ref 1, .ref 30], M12)) rfl ?_
        refine pm_igd (σ1 := (71, [some (.ref 30), some (.ref 1), some (.int x6), some (.int x9)], [.int (M12.1 4 x6.toNatClampNeg), .int ((M12.1 30 1) - (1 : Int32)), .ref 1, .ref 30], M12)) rfl (fun _ => ?_)
        refine pm_icV (as := [.ref 30, .ref 1, .int ((M12.1 30 1) - (1 : Int32)), .int (M12.1 4 x6.toNatClampNeg)]) (rest := []) rfl rfl rfl rfl (Nat.le_of_ble_eq_true rfl) rfl (fun r h => pm_Ev_mono (Nat.le_of_ble_eq_true rfl) (sTruth_arrive_ok ((M12.1 30 1) - (1 : Int32)) (M12.1 4 x6.toNatClampNeg) M12 r h)) (fun M13 => ?_)
        show pm_Im _ _ _ _ _ _ (74, [some (.ref 30), some (.ref 1), some (.int x6), some (.int x9)], [], M13)
        refine pm_irun 1 (σ' := (77, [some (.ref 30), some (.ref 1), some (.int x6), some (.int (x9 + (1 : Int32)))], [], M13)) rfl ?_
        refine pm_ilt (fun y => (77, [some (.ref 30), some (.ref 1), some (.int x6), some (.int y)], [], M13)) (fun x14 => ?_)
        refine pm_irun 1 (σ' := (28, [some (.ref 30), some (.ref 1), some (.int x6), some (.int x14)], [], M13)) rfl ?_
        exact hg7 _ _
def sC_begin  (M : pm_M) : Option (Int32 × pm_M) := pm_bd (sTours_isSound M) fun v2 M1 => if ¬ v2 = 0 then (pm_bv (sTruth_beginAtHomes M1) fun M3 => some ((M3.1 30 1), M3)) else (some ((-3 : Int32), M1))
abbrev I_C_begin (sh : Option (Int32 × pm_M)) (σ : pm_St) : Prop := pm_Im none (pm_Ev 3) pm_T80 (some .int) pm_rI sh σ
set_option maxHeartbeats 4000000 in
set_option maxRecDepth 100000 in
theorem sC_begin_ok  (M : pm_M) : ∀ r, sC_begin  M = some r → pm_Ev 4 80 [.ref 0] M (pm_rI r).1 (pm_rI r).2 := by
  refine pm_meth (al := [some (.ref 0)]) rfl rfl rfl rfl rfl ?_
  unfold sC_begin
  show I_C_begin _ (0, [some (.ref 0)], [], M)
  refine pm_irun 2 (σ' := (4, [some (.ref 0)], [.ref 15], M)) rfl ?_
  refine pm_icI (as := [.ref 15]) (rest := []) rfl rfl rfl rfl (Nat.le_of_ble_eq_true rfl) rfl (fun r h => pm_Ev_mono (Nat.le_of_ble_eq_true rfl) (sTours_isSound_ok M r h)) (fun v2 M1 => ?_)
  show pm_Im _ _ _ _ _ _ (7, [some (.ref 0)], [.int v2], M1)
  refine pm_iite (σ1 := (13, [some (.ref 0)], [], M1)) (σ2 := (10, [some (.ref 0)], [], M1)) rfl (fun _ => ?_) (fun _ => ?_)
  · refine pm_irun 4 (σ' := (21, [some (.ref 0)], [.ref 1, .ref 30], M1)) rfl ?_
    refine pm_icV (as := [.ref 30, .ref 1]) (rest := []) rfl rfl rfl rfl (Nat.le_of_ble_eq_true rfl) rfl (fun r h => pm_Ev_mono (Nat.le_of_ble_eq_true rfl) (sTruth_beginAtHomes_ok M1 r h)) (fun M3 => ?_)
    show pm_Im _ _ _ _ _ _ (24, [some (.ref 0)], [], M3)
    refine pm_irun 3 (σ' := (31, [some (.ref 0)], [.int (M3.1 30 1)], M3)) rfl ?_
    exact pm_irI rfl rfl
  · refine pm_irun 1 (σ' := (12, [some (.ref 0)], [.int (-3 : Int32)], M1)) rfl ?_
    exact pm_irI rfl rfl
def sR_classOf (a1 : Int32) (M : pm_M) : Option (Int32 × pm_M) := if (M.1 53 0) ≤ a1 then (some ((1 : Int32), M)) else (some ((0 : Int32), M))
abbrev I_R_classOf (sh : Option (Int32 × pm_M)) (σ : pm_St) : Prop := pm_Im none (pm_Ev 0) pm_T179 (some .int) pm_rI sh σ
set_option maxHeartbeats 4000000 in
set_option maxRecDepth 100000 in
theorem sR_classOf_ok (a1 : Int32) (M : pm_M) : ∀ r, sR_classOf a1 M = some r → pm_Ev 1 179 [.ref 49, .int a1] M (pm_rI r).1 (pm_rI r).2 := by
  refine pm_meth (al := [some (.ref 49), some (.int a1)]) rfl rfl rfl rfl rfl ?_
  unfold sR_classOf
  show I_R_classOf _ (0, [some (.ref 49), some (.int a1)], [], M)
  refine pm_irun 4 (σ' := (6, [some (.ref 49), some (.int a1)], [.int (0 : Int32), .ref 53, .int a1], M)) rfl ?_
  refine pm_igt (c := pm_in (0 : Int32) 2) (σ1 := (7, [some (.ref 49), some (.int a1)], [.int (M.1 53 0), .int a1], M)) (by decide) rfl ?_
  refine pm_iite (σ1 := (14, [some (.ref 49), some (.int a1)], [], M)) (σ2 := (10, [some (.ref 49), some (.int a1)], [], M)) rfl (fun _ => ?_) (fun _ => ?_)
  · refine pm_irun 1 (σ' := (15, [some (.ref 49), some (.int a1)], [.int (1 : Int32)], M)) rfl ?_
    exact pm_irI rfl rfl
  · refine pm_irun 2 (σ' := (15, [some (.ref 49), some (.int a1)], [.int (0 : Int32)], M)) rfl ?_
    exact pm_irI rfl rfl
def sR_comes (a1 : Int32) (a2 : Int32) (M : pm_M) : Option (pm_M) := if pm_in a2 5 then (if pm_in (((8 : Int32) * a2) + (M.1 66 a2.toNatClampNeg)) 40 then (pm_lt (pm_sI M 67 (((8 : Int32) * a2) + (M.1 66 a2.toNatClampNeg)).toNatClampNeg a1) fun M1 => if pm_in a2 5 then (if pm_in a2 5 then (pm_lt (pm_sI M1 66 a2.toNatClampNeg (((M1.1 66 a2.toNatClampNeg) + (1 : Int32)))) fun M2 => pm_bd (sR_classOf a1 M2) fun v4 M3 => pm_bd (sR_timeOf v4 a2 M3) fun v6 M5 => if pm_in a1 8 then (pm_lt (pm_sI M5 68 a1.toNatClampNeg v6) fun M7 => some M7) else none) else none) else none) else none) else none
abbrev I_R_comes (sh : Option (pm_M)) (σ : pm_St) : Prop := pm_Im none (pm_Ev 1) pm_T180 none pm_rV sh σ
set_option maxHeartbeats 4000000 in
set_option maxRecDepth 100000 in
theorem sR_comes_ok (a1 : Int32) (a2 : Int32) (M : pm_M) : ∀ r, sR_comes a1 a2 M = some r → pm_Ev 2 180 [.ref 49, .int a1, .int a2] M (pm_rV r).1 (pm_rV r).2 := by
  refine pm_meth (al := [some (.ref 49), some (.int a1), some (.int a2)]) rfl rfl rfl rfl rfl ?_
  unfold sR_comes
  show I_R_comes _ (0, [some (.ref 49), some (.int a1), some (.int a2)], [], M)
  refine pm_irun 8 (σ' := (13, [some (.ref 49), some (.int a1), some (.int a2)], [.int a2, .ref 66, .int ((8 : Int32) * a2), .ref 67], M)) rfl ?_
  refine pm_igd (σ1 := (14, [some (.ref 49), some (.int a1), some (.int a2)], [.int (M.1 66 a2.toNatClampNeg), .int ((8 : Int32) * a2), .ref 67], M)) rfl (fun _ => ?_)
  refine pm_irun 2 (σ' := (16, [some (.ref 49), some (.int a1), some (.int a2)], [.int a1, .int (((8 : Int32) * a2) + (M.1 66 a2.toNatClampNeg)), .ref 67], M)) rfl ?_
  refine pm_igd (σ1 := (17, [some (.ref 49), some (.int a1), some (.int a2)], [], (pm_sI M 67 (((8 : Int32) * a2) + (M.1 66 a2.toNatClampNeg)).toNatClampNeg a1))) rfl (fun _ => ?_)
  refine pm_ilt (fun y => (17, [some (.ref 49), some (.int a1), some (.int a2)], [], y)) (fun M1 => ?_)
  refine pm_irun 4 (σ' := (23, [some (.ref 49), some (.int a1), some (.int a2)], [.int a2, .ref 66, .int a2, .ref 66], M1)) rfl ?_
  refine pm_igd (σ1 := (24, [some (.ref 49), some (.int a1), some (.int a2)], [.int (M1.1 66 a2.toNatClampNeg), .int a2, .ref 66], M1)) rfl (fun _ => ?_)
  refine pm_irun 2 (σ' := (26, [some (.ref 49), some (.int a1), some (.int a2)], [.int ((M1.1 66 a2.toNatClampNeg) + (1 : Int32)), .int a2, .ref 66], M1)) rfl ?_
  refine pm_igd (σ1 := (27, [some (.ref 49), some (.int a1), some (.int a2)], [], (pm_sI M1 66 a2.toNatClampNeg (((M1.1 66 a2.toNatClampNeg) + (1 : Int32)))))) rfl (fun _ => ?_)
  refine pm_ilt (fun y => (27, [some (.ref 49), some (.int a1), some (.int a2)], [], y)) (fun M2 => ?_)
  refine pm_irun 6 (σ' := (35, [some (.ref 49), some (.int a1), some (.int a2)], [.int a1, .ref 49, .ref 49, .int a1, .ref 68], M2)) rfl ?_
  refine pm_icI (as := [.ref 49, .int a1]) (rest := [.ref 49, .int a1, .ref 68]) rfl rfl rfl rfl (Nat.le_of_ble_eq_true rfl) rfl (fun r h => pm_Ev_mono (Nat.le_of_ble_eq_true rfl) (sR_classOf_ok a1 M2 r h)) (fun v4 M3 => ?_)
  show pm_Im _ _ _ _ _ _ (38, [some (.ref 49), some (.int a1), some (.int a2)], [.int v4, .ref 49, .int a1, .ref 68], M3)
  refine pm_irun 1 (σ' := (39, [some (.ref 49), some (.int a1), some (.int a2)], [.int a2, .int v4, .ref 49, .int a1, .ref 68], M3)) rfl ?_
  refine pm_icI (as := [.ref 49, .int v4, .int a2]) (rest := [.int a1, .ref 68]) rfl rfl rfl rfl (Nat.le_of_ble_eq_true rfl) rfl (fun r h => pm_Ev_mono (Nat.le_of_ble_eq_true rfl) (sR_timeOf_ok v4 a2 M3 r h)) (fun v6 M5 => ?_)
  show pm_Im _ _ _ _ _ _ (42, [some (.ref 49), some (.int a1), some (.int a2)], [.int v6, .int a1, .ref 68], M5)
  refine pm_igd (σ1 := (43, [some (.ref 49), some (.int a1), some (.int a2)], [], (pm_sI M5 68 a1.toNatClampNeg v6))) rfl (fun _ => ?_)
  refine pm_ilt (fun y => (43, [some (.ref 49), some (.int a1), some (.int a2)], [], y)) (fun M7 => ?_)
  exact pm_irV rfl rfl
def sR_begin  (M : pm_M) : Option (Int32 × pm_M) := pm_bd (sR_isSound M) fun v2 M1 => if ¬ v2 = 0 then (pm_bv (sR_ends M1) fun M3 => pm_lt (pm_sI M3 49 22 (1 : Int32)) fun M4 => pm_loop (fun _ _ => none) (fun (g5 : Int32 → pm_M → Option (Int32 × pm_M)) x7 M6 => if ((M6.1 53 0) + (M6.1 53 1)) ≤ x7 then (some (((M6.1 53 0) + (M6.1 53 1)), M6)) else (pm_bd (sR_classOf x7 M6) fun v9 M8 => if pm_in v9 2 then (pm_bv (sR_comes x7 (M8.1 52 v9.toNatClampNeg) M8) fun M10 => pm_lt ((x7 + (1 : Int32))) fun x11 => g5 x11 M10) else none)) 1000000 (0 : Int32) M4) else (some ((-3 : Int32), M1))
abbrev I_R_begin (sh : Option (Int32 × pm_M)) (σ : pm_St) : Prop := pm_Im none (pm_Ev 14) pm_T181 (some .int) pm_rI sh σ
set_option maxHeartbeats 4000000 in
set_option maxRecDepth 100000 in
theorem sR_begin_ok  (M : pm_M) : ∀ r, sR_begin  M = some r → pm_Ev 15 181 [.ref 49] M (pm_rI r).1 (pm_rI r).2 := by
  refine pm_meth (al := [some (.ref 49), none]) rfl rfl rfl rfl rfl ?_
  unfold sR_begin
  show I_R_begin _ (0, [some (.ref 49), none], [], M)
  refine pm_irun 1 (σ' := (1, [some (.ref 49), none], [.ref 49], M)) rfl ?_
  refine pm_icI (as := [.ref 49]) (rest := []) rfl rfl rfl rfl (Nat.le_of_ble_eq_true rfl) rfl (fun r h => pm_Ev_mono (Nat.le_of_ble_eq_true rfl) (sR_isSound_ok M r h)) (fun v2 M1 => ?_)
  show pm_Im _ _ _ _ _ _ (4, [some (.ref 49), none], [.int v2], M1)
  refine pm_iite (σ1 := (10, [some (.ref 49), none], [], M1)) (σ2 := (7, [some (.ref 49), none], [], M1)) rfl (fun _ => ?_) (fun _ => ?_)
  · refine pm_irun 1 (σ' := (11, [some (.ref 49), none], [.ref 49], M1)) rfl ?_
    refine pm_icV (as := [.ref 49]) (rest := []) rfl rfl rfl rfl (Nat.le_of_ble_eq_true rfl) rfl (fun r h => pm_Ev_mono (Nat.le_of_ble_eq_true rfl) (sR_ends_ok M1 r h)) (fun M3 => ?_)
    show pm_Im _ _ _ _ _ _ (14, [some (.ref 49), none], [], M3)
    refine pm_irun 2 (σ' := (16, [some (.ref 49), none], [.int (1 : Int32), .ref 49], M3)) rfl ?_
    refine pm_igt (c := (1 : Int32) = 0 ∨ (1 : Int32) = 1) (σ1 := (19, [some (.ref 49), none], [], (pm_sI M3 49 22 (1 : Int32)))) (by decide) rfl ?_
    refine pm_ilt (fun y => (19, [some (.ref 49), none], [], y)) (fun M4 => ?_)
    refine pm_irun 2 (σ' := (21, [some (.ref 49), some (.int (0 : Int32))], [], M4)) rfl ?_
    refine pm_iloop (fun (g : Int32 → pm_M → Option (Int32 × pm_M)) => ∀ (x7 : Int32) (M6 : pm_M), I_R_begin (g x7 M6) (21, [some (.ref 49), some (.int x7)], [], M6)) (fun _ _ => pm_inone) (fun g5 hg5 x7 M6 => ?_) 1000000 _ _
    show I_R_begin _ (21, [some (.ref 49), some (.int x7)], [], M6)
    refine pm_irun 4 (σ' := (27, [some (.ref 49), some (.int x7)], [.int (0 : Int32), .ref 53, .int x7], M6)) rfl ?_
    refine pm_igt (c := pm_in (0 : Int32) 2) (σ1 := (28, [some (.ref 49), some (.int x7)], [.int (M6.1 53 0), .int x7], M6)) (by decide) rfl ?_
    refine pm_irun 3 (σ' := (33, [some (.ref 49), some (.int x7)], [.int (1 : Int32), .ref 53, .int (M6.1 53 0), .int x7], M6)) rfl ?_
    refine pm_igt (c := pm_in (1 : Int32) 2) (σ1 := (34, [some (.ref 49), some (.int x7)], [.int (M6.1 53 1), .int (M6.1 53 0), .int x7], M6)) (by decide) rfl ?_
    refine pm_irun 1 (σ' := (35, [some (.ref 49), some (.int x7)], [.int ((M6.1 53 0) + (M6.1 53 1)), .int x7], M6)) rfl ?_
    refine pm_iite (σ1 := (59, [some (.ref 49), some (.int x7)], [], M6)) (σ2 := (38, [some (.ref 49), some (.int x7)], [], M6)) rfl (fun _ => ?_) (fun _ => ?_)
    · refine pm_irun 3 (σ' := (64, [some (.ref 49), some (.int x7)], [.int (0 : Int32), .ref 53], M6)) rfl ?_
      refine pm_igt (c := pm_in (0 : Int32) 2) (σ1 := (65, [some (.ref 49), some (.int x7)], [.int (M6.1 53 0)], M6)) (by decide) rfl ?_
      refine pm_irun 3 (σ' := (70, [some (.ref 49), some (.int x7)], [.int (1 : Int32), .ref 53, .int (M6.1 53 0)], M6)) rfl ?_
      refine pm_igt (c := pm_in (1 : Int32) 2) (σ1 := (71, [some (.ref 49), some (.int x7)], [.int (M6.1 53 1), .int (M6.1 53 0)], M6)) (by decide) rfl ?_
      refine pm_irun 1 (σ' := (72, [some (.ref 49), some (.int x7)], [.int ((M6.1 53 0) + (M6.1 53 1))], M6)) rfl ?_
      exact pm_irI rfl rfl
    · refine pm_irun 6 (σ' := (46, [some (.ref 49), some (.int x7)], [.int x7, .ref 49, .ref 52, .int x7, .ref 49], M6)) rfl ?_
      refine pm_icI (as := [.ref 49, .int x7]) (rest := [.ref 52, .int x7, .ref 49]) rfl rfl rfl rfl (Nat.le_of_ble_eq_true rfl) rfl (fun r h => pm_Ev_mono (Nat.le_of_ble_eq_true rfl) (sR_classOf_ok x7 M6 r h)) (fun v9 M8 => ?_)
      show pm_Im _ _ _ _ _ _ (49, [some (.ref 49), some (.int x7)], [.int v9, .ref 52, .int x7, .ref 49], M8)
      refine pm_igd (σ1 := (50, [some (.ref 49), some (.int x7)], [.int (M8.1 52 v9.toNatClampNeg), .int x7, .ref 49], M8)) rfl (fun _ => ?_)
      refine pm_icV (as := [.ref 49, .int x7, .int (M8.1 52 v9.toNatClampNeg)]) (rest := []) rfl rfl rfl rfl (Nat.le_of_ble_eq_true rfl) rfl (fun r h => pm_Ev_mono (Nat.le_of_ble_eq_true rfl) (sR_comes_ok x7 (M8.1 52 v9.toNatClampNeg) M8 r h)) (fun M10 => ?_)
      show pm_Im _ _ _ _ _ _ (53, [some (.ref 49), some (.int x7)], [], M10)
      refine pm_irun 1 (σ' := (56, [some (.ref 49), some (.int (x7 + (1 : Int32)))], [], M10)) rfl ?_
      refine pm_ilt (fun y => (56, [some (.ref 49), some (.int y)], [], M10)) (fun x11 => ?_)
      refine pm_irun 1 (σ' := (21, [some (.ref 49), some (.int x11)], [], M10)) rfl ?_
      exact hg5 _ _
  · refine pm_irun 1 (σ' := (9, [some (.ref 49), none], [.int (-3 : Int32)], M1)) rfl ?_
    exact pm_irI rfl rfl
def sTruth_draw (a1 : Int32) (M : pm_M) : Option (Int32 × pm_M) := pm_lt (pm_sI M 30 4 ((((M.1 30 4) * (1103515245 : Int32)) + (12345 : Int32)))) fun M1 => if a1 ≤ 0 then (some ((0 : Int32), M1)) else (if ¬ a1 = 0 then (some ((((M1.1 30 4).toUInt32 >>> ((16 : Int32).toUInt32 &&& Int32.toUInt32 31)).toInt32 - ((M1.1 30 4).toUInt32 >>> ((16 : Int32).toUInt32 &&& Int32.toUInt32 31)).toInt32 / a1 * a1), M1)) else none)
abbrev I_Truth_draw (sh : Option (Int32 × pm_M)) (σ : pm_St) : Prop := pm_Im none (pm_Ev 0) pm_T56 (some .int) pm_rI sh σ
set_option maxHeartbeats 4000000 in
set_option maxRecDepth 100000 in
theorem sTruth_draw_ok (a1 : Int32) (M : pm_M) : ∀ r, sTruth_draw a1 M = some r → pm_Ev 1 56 [.ref 30, .int a1] M (pm_rI r).1 (pm_rI r).2 := by
  refine pm_meth (al := [some (.ref 30), some (.int a1)]) rfl rfl rfl rfl rfl ?_
  unfold sTruth_draw
  show I_Truth_draw _ (0, [some (.ref 30), some (.int a1)], [], M)
  refine pm_irun 7 (σ' := (12, [some (.ref 30), some (.int a1)], [.int (((M.1 30 4) * (1103515245 : Int32)) + (12345 : Int32)), .ref 30], M)) rfl ?_
  refine pm_irun 1 (σ' := (15, [some (.ref 30), some (.int a1)], [], (pm_sI M 30 4 ((((M.1 30 4) * (1103515245 : Int32)) + (12345 : Int32)))))) rfl ?_
  refine pm_ilt (fun y => (15, [some (.ref 30), some (.int a1)], [], y)) (fun M1 => ?_)
  refine pm_irun 1 (σ' := (16, [some (.ref 30), some (.int a1)], [.int a1], M1)) rfl ?_
  refine pm_iite (σ1 := (31, [some (.ref 30), some (.int a1)], [], M1)) (σ2 := (19, [some (.ref 30), some (.int a1)], [], M1)) rfl (fun _ => ?_) (fun _ => ?_)
  · refine pm_irun 1 (σ' := (32, [some (.ref 30), some (.int a1)], [.int (0 : Int32)], M1)) rfl ?_
    exact pm_irI rfl rfl
  · refine pm_irun 5 (σ' := (27, [some (.ref 30), some (.int a1)], [.int a1, .int ((M1.1 30 4).toUInt32 >>> ((16 : Int32).toUInt32 &&& Int32.toUInt32 31)).toInt32], M1)) rfl ?_
    refine pm_igd (σ1 := (28, [some (.ref 30), some (.int a1)], [.int (((M1.1 30 4).toUInt32 >>> ((16 : Int32).toUInt32 &&& Int32.toUInt32 31)).toInt32 - ((M1.1 30 4).toUInt32 >>> ((16 : Int32).toUInt32 &&& Int32.toUInt32 31)).toInt32 / a1 * a1)], M1)) rfl (fun _ => ?_)
    refine pm_irun 1 (σ' := (32, [some (.ref 30), some (.int a1)], [.int (((M1.1 30 4).toUInt32 >>> ((16 : Int32).toUInt32 &&& Int32.toUInt32 31)).toInt32 - ((M1.1 30 4).toUInt32 >>> ((16 : Int32).toUInt32 &&& Int32.toUInt32 31)).toInt32 / a1 * a1)], M1)) rfl ?_
    exact pm_irI rfl rfl
def sTruth_drawGoal (a2 : Int32) (M : pm_M) : Option (Int32 × pm_M) := pm_bd (sTruth_classOf a2 M) fun v2 M1 => if pm_in a2 8 then (pm_lt ((M1.1 33 a2.toNatClampNeg)) fun x3 => pm_bd (sNet_weightsFrom_1 v2 x3 M1) fun v5 M4 => pm_bd (sTruth_draw v5 M4) fun v7 M6 => pm_loop (fun _ _ _ => none) (fun (g8 : Int32 → Int32 → pm_M → Option (Int32 × pm_M)) x10 x11 M9 => if (M9.1 1 0) ≤ x11 then (some (x3, M9)) else (pm_bd (sNet_weightOf_1 v2 x3 x11 M9) fun v13 M12 => pm_lt ((x10 + v13)) fun x14 => if x14 ≤ v7 then (pm_lt ((x11 + (1 : Int32))) fun x15 => g8 x14 x15 M12) else (some (x11, M12)))) 1000000 (0 : Int32) (0 : Int32) M6) else none
abbrev I_Truth_drawGoal (sh : Option (Int32 × pm_M)) (σ : pm_St) : Prop := pm_Im none (pm_Ev 1) pm_T55 (some .int) pm_rI sh σ
set_option maxHeartbeats 4000000 in
set_option maxRecDepth 100000 in
theorem sTruth_drawGoal_ok (a2 : Int32) (M : pm_M) : ∀ r, sTruth_drawGoal a2 M = some r → pm_Ev 2 55 [.ref 30, .ref 1, .int a2] M (pm_rI r).1 (pm_rI r).2 := by
  refine pm_meth (al := [some (.ref 30), some (.ref 1), some (.int a2), none, none, none, none, none]) rfl rfl rfl rfl rfl ?_
  unfold sTruth_drawGoal
  show I_Truth_drawGoal _ (0, [some (.ref 30), some (.ref 1), some (.int a2), none, none, none, none, none], [], M)
  refine pm_irun 2 (σ' := (2, [some (.ref 30), some (.ref 1), some (.int a2), none, none, none, none, none], [.int a2, .ref 30], M)) rfl ?_
  refine pm_icI (as := [.ref 30, .int a2]) (rest := []) rfl rfl rfl rfl (Nat.le_of_ble_eq_true rfl) rfl (fun r h => pm_Ev_mono (Nat.le_of_ble_eq_true rfl) (sTruth_classOf_ok a2 M r h)) (fun v2 M1 => ?_)
  show pm_Im _ _ _ _ _ _ (5, [some (.ref 30), some (.ref 1), some (.int a2), none, none, none, none, none], [.int v2], M1)
  refine pm_irun 1 (σ' := (6, [some (.ref 30), some (.ref 1), some (.int a2), some (.int v2), none, none, none, none], [], M1)) rfl ?_
  refine pm_irun 3 (σ' := (11, [some (.ref 30), some (.ref 1), some (.int a2), some (.int v2), none, none, none, none], [.int a2, .ref 33], M1)) rfl ?_
  refine pm_igd (σ1 := (12, [some (.ref 30), some (.ref 1), some (.int a2), some (.int v2), none, none, none, none], [.int (M1.1 33 a2.toNatClampNeg)], M1)) rfl (fun _ => ?_)
  refine pm_irun 1 (σ' := (14, [some (.ref 30), some (.ref 1), some (.int a2), some (.int v2), some (.int (M1.1 33 a2.toNatClampNeg)), none, none, none], [], M1)) rfl ?_
  refine pm_ilt (fun y => (14, [some (.ref 30), some (.ref 1), some (.int a2), some (.int v2), some (.int y), none, none, none], [], M1)) (fun x3 => ?_)
  refine pm_irun 4 (σ' := (19, [some (.ref 30), some (.ref 1), some (.int a2), some (.int v2), some (.int x3), none, none, none], [.int x3, .int v2, .ref 1, .ref 30], M1)) rfl ?_
  refine pm_icI (as := [.ref 1, .int v2, .int x3]) (rest := [.ref 30]) rfl rfl rfl rfl (Nat.le_of_ble_eq_true rfl) rfl (fun r h => pm_Ev_mono (Nat.le_of_ble_eq_true rfl) (sNet_weightsFrom_1_ok v2 x3 M1 r h)) (fun v5 M4 => ?_)
  show pm_Im _ _ _ _ _ _ (22, [some (.ref 30), some (.ref 1), some (.int a2), some (.int v2), some (.int x3), none, none, none], [.int v5, .ref 30], M4)
  refine pm_icI (as := [.ref 30, .int v5]) (rest := []) rfl rfl rfl rfl (Nat.le_of_ble_eq_true rfl) rfl (fun r h => pm_Ev_mono (Nat.le_of_ble_eq_true rfl) (sTruth_draw_ok v5 M4 r h)) (fun v7 M6 => ?_)
  show pm_Im _ _ _ _ _ _ (25, [some (.ref 30), some (.ref 1), some (.int a2), some (.int v2), some (.int x3), none, none, none], [.int v7], M6)
  refine pm_irun 1 (σ' := (27, [some (.ref 30), some (.ref 1), some (.int a2), some (.int v2), some (.int x3), some (.int v7), none, none], [], M6)) rfl ?_
  refine pm_irun 2 (σ' := (30, [some (.ref 30), some (.ref 1), some (.int a2), some (.int v2), some (.int x3), some (.int v7), some (.int (0 : Int32)), none], [], M6)) rfl ?_
  refine pm_irun 2 (σ' := (33, [some (.ref 30), some (.ref 1), some (.int a2), some (.int v2), some (.int x3), some (.int v7), some (.int (0 : Int32)), some (.int (0 : Int32))], [], M6)) rfl ?_
  refine pm_iwk (al' := [none, some (.ref 1), none, some (.int v2), some (.int x3), some (.int v7), some (.int (0 : Int32)), some (.int (0 : Int32))]) (pm_wkN (pm_wkS (pm_wkN (pm_wkS (pm_wkS (pm_wkS (pm_wkS (pm_wkS pm_wk0)))))))) ?_
  refine pm_iloop (fun (g : Int32 → Int32 → pm_M → Option (Int32 × pm_M)) => ∀ (x10 : Int32) (x11 : Int32) (M9 : pm_M), I_Truth_drawGoal (g x10 x11 M9) (33, [none, some (.ref 1), none, some (.int v2), some (.int x3), some (.int v7), some (.int x10), some (.int x11)], [], M9)) (fun _ _ _ => pm_inone) (fun g8 hg8 x10 x11 M9 => ?_) 1000000 _ _ _
  show I_Truth_drawGoal _ (33, [none, some (.ref 1), none, some (.int v2), some (.int x3), some (.int v7), some (.int x10), some (.int x11)], [], M9)
  refine pm_irun 3 (σ' := (39, [none, some (.ref 1), none, some (.int v2), some (.int x3), some (.int v7), some (.int x10), some (.int x11)], [.int (M9.1 1 0), .int x11], M9)) rfl ?_
  refine pm_iite (σ1 := (72, [none, some (.ref 1), none, some (.int v2), some (.int x3), some (.int v7), some (.int x10), some (.int x11)], [], M9)) (σ2 := (42, [none, some (.ref 1), none, some (.int v2), some (.int x3), some (.int v7), some (.int x10), some (.int x11)], [], M9)) rfl (fun _ => ?_) (fun _ => ?_)
  · refine pm_irun 1 (σ' := (74, [none, some (.ref 1), none, some (.int v2), some (.int x3), some (.int v7), some (.int x10), some (.int x11)], [.int x3], M9)) rfl ?_
    exact pm_irI rfl rfl
  · refine pm_irun 5 (σ' := (50, [none, some (.ref 1), none, some (.int v2), some (.int x3), some (.int v7), some (.int x10), some (.int x11)], [.int x11, .int x3, .int v2, .ref 1, .int x10], M9)) rfl ?_
    refine pm_icI (as := [.ref 1, .int v2, .int x3, .int x11]) (rest := [.int x10]) rfl rfl rfl rfl (Nat.le_of_ble_eq_true rfl) rfl (fun r h => pm_Ev_mono (Nat.le_of_ble_eq_true rfl) (sNet_weightOf_1_ok v2 x3 x11 M9 r h)) (fun v13 M12 => ?_)
    show pm_Im _ _ _ _ _ _ (53, [none, some (.ref 1), none, some (.int v2), some (.int x3), some (.int v7), some (.int x10), some (.int x11)], [.int v13, .int x10], M12)
    refine pm_irun 2 (σ' := (56, [none, some (.ref 1), none, some (.int v2), some (.int x3), some (.int v7), some (.int (x10 + v13)), some (.int x11)], [], M12)) rfl ?_
    refine pm_ilt (fun y => (56, [none, some (.ref 1), none, some (.int v2), some (.int x3), some (.int v7), some (.int y), some (.int x11)], [], M12)) (fun x14 => ?_)
    refine pm_irun 2 (σ' := (60, [none, some (.ref 1), none, some (.int v2), some (.int x3), some (.int v7), some (.int x14), some (.int x11)], [.int v7, .int x14], M12)) rfl ?_
    refine pm_iite (σ1 := (66, [none, some (.ref 1), none, some (.int v2), some (.int x3), some (.int v7), some (.int x14), some (.int x11)], [], M12)) (σ2 := (63, [none, some (.ref 1), none, some (.int v2), some (.int x3), some (.int v7), some (.int x14), some (.int x11)], [], M12)) rfl (fun _ => ?_) (fun _ => ?_)
    · refine pm_irun 1 (σ' := (69, [none, some (.ref 1), none, some (.int v2), some (.int x3), some (.int v7), some (.int x14), some (.int (x11 + (1 : Int32)))], [], M12)) rfl ?_
      refine pm_ilt (fun y => (69, [none, some (.ref 1), none, some (.int v2), some (.int x3), some (.int v7), some (.int x14), some (.int y)], [], M12)) (fun x15 => ?_)
      refine pm_irun 1 (σ' := (33, [none, some (.ref 1), none, some (.int v2), some (.int x3), some (.int v7), some (.int x14), some (.int x15)], [], M12)) rfl ?_
      exact hg8 _ _ _
    · refine pm_irun 1 (σ' := (65, [none, some (.ref 1), none, some (.int v2), some (.int x3), some (.int v7), some (.int x14), some (.int x11)], [.int x11], M12)) rfl ?_
      exact pm_irI rfl rfl
def sTruth_takeOut (a1 : Int32) (a2 : Int32) (M : pm_M) : Option (pm_M) := pm_lt ((a1 * (8 : Int32))) fun x1 => pm_lt ((a2 + (1 : Int32))) fun x2 => pm_loop (fun _ _ => none) (fun (g3 : Int32 → pm_M → Option (pm_M)) x5 M4 => if pm_in a1 5 then (if (M4.1 32 a1.toNatClampNeg) ≤ x5 then (if pm_in a1 5 then (if pm_in a1 5 then (pm_lt (pm_sI M4 32 a1.toNatClampNeg (((M4.1 32 a1.toNatClampNeg) - (1 : Int32)))) fun M6 => some M6) else none) else none) else (if pm_in (x1 + x5) 40 then (if pm_in ((x1 + x5) - (1 : Int32)) 40 then (pm_lt (pm_sI M4 31 ((x1 + x5) - (1 : Int32)).toNatClampNeg ((M4.1 31 (x1 + x5).toNatClampNeg))) fun M7 => pm_lt ((x5 + (1 : Int32))) fun x8 => g3 x8 M7) else none) else none)) else none) 1000000 x2 M
abbrev I_Truth_takeOut (sh : Option (pm_M)) (σ : pm_St) : Prop := pm_Im none (pm_Ev 0) pm_T54 none pm_rV sh σ
set_option maxHeartbeats 4000000 in
set_option maxRecDepth 100000 in
theorem sTruth_takeOut_ok (a1 : Int32) (a2 : Int32) (M : pm_M) : ∀ r, sTruth_takeOut a1 a2 M = some r → pm_Ev 1 54 [.ref 30, .int a1, .int a2] M (pm_rV r).1 (pm_rV r).2 := by
  refine pm_meth (al := [some (.ref 30), some (.int a1), some (.int a2), none, none]) rfl rfl rfl rfl rfl ?_
  unfold sTruth_takeOut
  show I_Truth_takeOut _ (0, [some (.ref 30), some (.int a1), some (.int a2), none, none], [], M)
  refine pm_irun 4 (σ' := (5, [some (.ref 30), some (.int a1), some (.int a2), some (.int (a1 * (8 : Int32))), none], [], M)) rfl ?_
  refine pm_ilt (fun y => (5, [some (.ref 30), some (.int a1), some (.int a2), some (.int y), none], [], M)) (fun x1 => ?_)
  refine pm_irun 4 (σ' := (10, [some (.ref 30), some (.int a1), some (.int a2), some (.int x1), some (.int (a2 + (1 : Int32)))], [], M)) rfl ?_
  refine pm_ilt (fun y => (10, [some (.ref 30), some (.int a1), some (.int a2), some (.int x1), some (.int y)], [], M)) (fun x2 => ?_)
  refine pm_iwk (al' := [some (.ref 30), some (.int a1), none, some (.int x1), some (.int x2)]) (pm_wkS (pm_wkS (pm_wkN (pm_wkS (pm_wkS pm_wk0))))) ?_
  refine pm_iloop (fun (g : Int32 → pm_M → Option (pm_M)) => ∀ (x5 : Int32) (M4 : pm_M), I_Truth_takeOut (g x5 M4) (10, [some (.ref 30), some (.int a1), none, some (.int x1), some (.int x5)], [], M4)) (fun _ _ => pm_inone) (fun g3 hg3 x5 M4 => ?_) 1000000 _ _
  show I_Truth_takeOut _ (10, [some (.ref 30), some (.int a1), none, some (.int x1), some (.int x5)], [], M4)
  refine pm_irun 4 (σ' := (17, [some (.ref 30), some (.int a1), none, some (.int x1), some (.int x5)], [.int a1, .ref 32, .int x5], M4)) rfl ?_
  refine pm_igd (σ1 := (18, [some (.ref 30), some (.int a1), none, some (.int x1), some (.int x5)], [.int (M4.1 32 a1.toNatClampNeg), .int x5], M4)) rfl (fun _ => ?_)
  refine pm_iite (σ1 := (47, [some (.ref 30), some (.int a1), none, some (.int x1), some (.int x5)], [], M4)) (σ2 := (21, [some (.ref 30), some (.int a1), none, some (.int x1), some (.int x5)], [], M4)) rfl (fun _ => ?_) (fun _ => ?_)
  · refine pm_irun 4 (σ' := (53, [some (.ref 30), some (.int a1), none, some (.int x1), some (.int x5)], [.int a1, .ref 32, .int a1, .ref 32], M4)) rfl ?_
    refine pm_igd (σ1 := (54, [some (.ref 30), some (.int a1), none, some (.int x1), some (.int x5)], [.int (M4.1 32 a1.toNatClampNeg), .int a1, .ref 32], M4)) rfl (fun _ => ?_)
    refine pm_irun 2 (σ' := (56, [some (.ref 30), some (.int a1), none, some (.int x1), some (.int x5)], [.int ((M4.1 32 a1.toNatClampNeg) - (1 : Int32)), .int a1, .ref 32], M4)) rfl ?_
    refine pm_igd (σ1 := (57, [some (.ref 30), some (.int a1), none, some (.int x1), some (.int x5)], [], (pm_sI M4 32 a1.toNatClampNeg (((M4.1 32 a1.toNatClampNeg) - (1 : Int32)))))) rfl (fun _ => ?_)
    refine pm_ilt (fun y => (57, [some (.ref 30), some (.int a1), none, some (.int x1), some (.int x5)], [], y)) (fun M6 => ?_)
    exact pm_irV rfl rfl
  · refine pm_irun 8 (σ' := (32, [some (.ref 30), some (.int a1), none, some (.int x1), some (.int x5)], [.ref 30, .int ((x1 + x5) - (1 : Int32)), .ref 31], M4)) rfl ?_
    refine pm_irun 4 (σ' := (39, [some (.ref 30), some (.int a1), none, some (.int x1), some (.int x5)], [.int (x1 + x5), .ref 31, .int ((x1 + x5) - (1 : Int32)), .ref 31], M4)) rfl ?_
    refine pm_igd (σ1 := (40, [some (.ref 30), some (.int a1), none, some (.int x1), some (.int x5)], [.int (M4.1 31 (x1 + x5).toNatClampNeg), .int ((x1 + x5) - (1 : Int32)), .ref 31], M4)) rfl (fun _ => ?_)
    refine pm_igd (σ1 := (41, [some (.ref 30), some (.int a1), none, some (.int x1), some (.int x5)], [], (pm_sI M4 31 ((x1 + x5) - (1 : Int32)).toNatClampNeg ((M4.1 31 (x1 + x5).toNatClampNeg))))) rfl (fun _ => ?_)
    refine pm_ilt (fun y => (41, [some (.ref 30), some (.int a1), none, some (.int x1), some (.int x5)], [], y)) (fun M7 => ?_)
    refine pm_irun 1 (σ' := (44, [some (.ref 30), some (.int a1), none, some (.int x1), some (.int (x5 + (1 : Int32)))], [], M7)) rfl ?_
    refine pm_ilt (fun y => (44, [some (.ref 30), some (.int a1), none, some (.int x1), some (.int y)], [], M7)) (fun x8 => ?_)
    refine pm_irun 1 (σ' := (10, [some (.ref 30), some (.int a1), none, some (.int x1), some (.int x8)], [], M7)) rfl ?_
    exact hg3 _ _
def sTruth_work (a1 : Int32) (a2 : Int32) (M : pm_M) : Option (Int32 × pm_M) := if pm_in ((a1 * (8 : Int32)) + a2) 40 then (pm_lt ((M.1 31 ((a1 * (8 : Int32)) + a2).toNatClampNeg)) fun x1 => if pm_in x1 8 then (if pm_in x1 8 then (pm_lt (pm_sI M 34 x1.toNatClampNeg (((M.1 34 x1.toNatClampNeg) - (1 : Int32)))) fun M2 => if pm_in x1 8 then (if (M2.1 34 x1.toNatClampNeg) ≤ 0 then (pm_bv (sTruth_takeOut a1 a2 M2) fun M3 => pm_bd (sTruth_classOf x1 M3) fun v5 M4 => if pm_in ((v5 * (5 : Int32)) + a1) 10 then (if pm_in ((v5 * (5 : Int32)) + a1) 10 then (pm_lt (pm_sI M4 35 ((v5 * (5 : Int32)) + a1).toNatClampNeg (((M4.1 35 ((v5 * (5 : Int32)) + a1).toNatClampNeg) + (1 : Int32)))) fun M6 => if pm_in (M6.1 30 5) 8 then (pm_lt (pm_sI M6 36 (M6.1 30 5).toNatClampNeg x1) fun M7 => pm_lt (pm_sI M7 30 5 (((M7.1 30 5) + (1 : Int32)))) fun M8 => some ((1 : Int32), M8)) else none) else none) else none) else (some ((0 : Int32), M2))) else none) else none) else none) else none
abbrev I_Truth_work (sh : Option (Int32 × pm_M)) (σ : pm_St) : Prop := pm_Im none (pm_Ev 1) pm_T53 (some .boolean) pm_rI sh σ
set_option maxHeartbeats 4000000 in
set_option maxRecDepth 100000 in
theorem sTruth_work_ok (a1 : Int32) (a2 : Int32) (M : pm_M) : ∀ r, sTruth_work a1 a2 M = some r → pm_Ev 2 53 [.ref 30, .int a1, .int a2] M (pm_rI r).1 (pm_rI r).2 := by
  refine pm_meth (al := [some (.ref 30), some (.int a1), some (.int a2), none]) rfl rfl rfl rfl rfl ?_
  unfold sTruth_work
  show I_Truth_work _ (0, [some (.ref 30), some (.int a1), some (.int a2), none], [], M)
  refine pm_irun 7 (σ' := (10, [some (.ref 30), some (.int a1), some (.int a2), none], [.int ((a1 * (8 : Int32)) + a2), .ref 31], M)) rfl ?_
  refine pm_igd (σ1 := (11, [some (.ref 30), some (.int a1), some (.int a2), none], [.int (M.1 31 ((a1 * (8 : Int32)) + a2).toNatClampNeg)], M)) rfl (fun _ => ?_)
  refine pm_irun 1 (σ' := (12, [some (.ref 30), some (.int a1), some (.int a2), some (.int (M.1 31 ((a1 * (8 : Int32)) + a2).toNatClampNeg))], [], M)) rfl ?_
  refine pm_ilt (fun y => (12, [some (.ref 30), some (.int a1), some (.int a2), some (.int y)], [], M)) (fun x1 => ?_)
  refine pm_irun 4 (σ' := (18, [some (.ref 30), some (.int a1), some (.int a2), some (.int x1)], [.int x1, .ref 34, .int x1, .ref 34], M)) rfl ?_
  refine pm_igd (σ1 := (19, [some (.ref 30), some (.int a1), some (.int a2), some (.int x1)], [.int (M.1 34 x1.toNatClampNeg), .int x1, .ref 34], M)) rfl (fun _ => ?_)
  refine pm_irun 2 (σ' := (21, [some (.ref 30), some (.int a1), some (.int a2), some (.int x1)], [.int ((M.1 34 x1.toNatClampNeg) - (1 : Int32)), .int x1, .ref 34], M)) rfl ?_
  refine pm_igd (σ1 := (22, [some (.ref 30), some (.int a1), some (.int a2), some (.int x1)], [], (pm_sI M 34 x1.toNatClampNeg (((M.1 34 x1.toNatClampNeg) - (1 : Int32)))))) rfl (fun _ => ?_)
  refine pm_ilt (fun y => (22, [some (.ref 30), some (.int a1), some (.int a2), some (.int x1)], [], y)) (fun M2 => ?_)
  refine pm_irun 3 (σ' := (27, [some (.ref 30), some (.int a1), some (.int a2), some (.int x1)], [.int x1, .ref 34], M2)) rfl ?_
  refine pm_igd (σ1 := (28, [some (.ref 30), some (.int a1), some (.int a2), some (.int x1)], [.int (M2.1 34 x1.toNatClampNeg)], M2)) rfl (fun _ => ?_)
  refine pm_iite (σ1 := (33, [some (.ref 30), some (.int a1), some (.int a2), some (.int x1)], [], M2)) (σ2 := (31, [some (.ref 30), some (.int a1), some (.int a2), some (.int x1)], [], M2)) rfl (fun _ => ?_) (fun _ => ?_)
  · refine pm_irun 3 (σ' := (36, [some (.ref 30), some (.int a1), some (.int a2), some (.int x1)], [.int a2, .int a1, .ref 30], M2)) rfl ?_
    refine pm_icV (as := [.ref 30, .int a1, .int a2]) (rest := []) rfl rfl rfl rfl (Nat.le_of_ble_eq_true rfl) rfl (fun r h => pm_Ev_mono (Nat.le_of_ble_eq_true rfl) (sTruth_takeOut_ok a1 a2 M2 r h)) (fun M3 => ?_)
    show pm_Im _ _ _ _ _ _ (39, [some (.ref 30), some (.int a1), some (.int a2), some (.int x1)], [], M3)
    refine pm_irun 4 (σ' := (45, [some (.ref 30), some (.int a1), some (.int a2), some (.int x1)], [.int x1, .ref 30, .ref 35], M3)) rfl ?_
    refine pm_icI (as := [.ref 30, .int x1]) (rest := [.ref 35]) rfl rfl rfl rfl (Nat.le_of_ble_eq_true rfl) rfl (fun r h => pm_Ev_mono (Nat.le_of_ble_eq_true rfl) (sTruth_classOf_ok x1 M3 r h)) (fun v5 M4 => ?_)
    show pm_Im _ _ _ _ _ _ (48, [some (.ref 30), some (.int a1), some (.int a2), some (.int x1)], [.int v5, .ref 35], M4)
    refine pm_irun 5 (σ' := (53, [some (.ref 30), some (.int a1), some (.int a2), some (.int x1)], [.int ((v5 * (5 : Int32)) + a1), .ref 35, .int ((v5 * (5 : Int32)) + a1), .ref 35], M4)) rfl ?_
    refine pm_igd (σ1 := (54, [some (.ref 30), some (.int a1), some (.int a2), some (.int x1)], [.int (M4.1 35 ((v5 * (5 : Int32)) + a1).toNatClampNeg), .int ((v5 * (5 : Int32)) + a1), .ref 35], M4)) rfl (fun _ => ?_)
    refine pm_irun 2 (σ' := (56, [some (.ref 30), some (.int a1), some (.int a2), some (.int x1)], [.int ((M4.1 35 ((v5 * (5 : Int32)) + a1).toNatClampNeg) + (1 : Int32)), .int ((v5 * (5 : Int32)) + a1), .ref 35], M4)) rfl ?_
    refine pm_igd (σ1 := (57, [some (.ref 30), some (.int a1), some (.int a2), some (.int x1)], [], (pm_sI M4 35 ((v5 * (5 : Int32)) + a1).toNatClampNeg (((M4.1 35 ((v5 * (5 : Int32)) + a1).toNatClampNeg) + (1 : Int32)))))) rfl (fun _ => ?_)
    refine pm_ilt (fun y => (57, [some (.ref 30), some (.int a1), some (.int a2), some (.int x1)], [], y)) (fun M6 => ?_)
    refine pm_irun 5 (σ' := (66, [some (.ref 30), some (.int a1), some (.int a2), some (.int x1)], [.int x1, .int (M6.1 30 5), .ref 36], M6)) rfl ?_
    refine pm_igd (σ1 := (67, [some (.ref 30), some (.int a1), some (.int a2), some (.int x1)], [], (pm_sI M6 36 (M6.1 30 5).toNatClampNeg x1))) rfl (fun _ => ?_)
    refine pm_ilt (fun y => (67, [some (.ref 30), some (.int a1), some (.int a2), some (.int x1)], [], y)) (fun M7 => ?_)
    refine pm_irun 5 (σ' := (74, [some (.ref 30), some (.int a1), some (.int a2), some (.int x1)], [.int ((M7.1 30 5) + (1 : Int32)), .ref 30], M7)) rfl ?_
    refine pm_irun 1 (σ' := (77, [some (.ref 30), some (.int a1), some (.int a2), some (.int x1)], [], (pm_sI M7 30 5 (((M7.1 30 5) + (1 : Int32)))))) rfl ?_
    refine pm_ilt (fun y => (77, [some (.ref 30), some (.int a1), some (.int a2), some (.int x1)], [], y)) (fun M8 => ?_)
    refine pm_irun 1 (σ' := (78, [some (.ref 30), some (.int a1), some (.int a2), some (.int x1)], [.int (1 : Int32)], M8)) rfl ?_
    exact pm_irZ (Or.inr rfl) rfl rfl
  · refine pm_irun 1 (σ' := (32, [some (.ref 30), some (.int a1), some (.int a2), some (.int x1)], [.int (0 : Int32)], M2)) rfl ?_
    exact pm_irZ (Or.inl rfl) rfl rfl
def sTruth_serve (a1 : Int32) (a2 : Int32) (M : pm_M) : Option (pm_M) := if pm_in a1 5 then (pm_lt ((M.1 32 a1.toNatClampNeg)) fun x1 => if ¬ x1 = 0 then (if a2 = Int32.ofNat 0 then (pm_bd (sTruth_work a1 (0 : Int32) M) fun v3 M2 => some M2) else if a2 = Int32.ofNat 1 then (pm_bd (sTruth_work a1 (x1 - (1 : Int32)) M) fun v5 M4 => some M4) else if a2 = Int32.ofNat 2 then (if pm_in (a1 * (8 : Int32)) 40 then (pm_lt ((M.1 31 (a1 * (8 : Int32)).toNatClampNeg)) fun x6 => pm_bd (sTruth_work a1 (0 : Int32) M) fun v8 M7 => if ¬ v8 = 0 then (some M7) else (pm_bv (sTruth_takeOut a1 (0 : Int32) M7) fun M9 => pm_bv (sTruth_standLast x6 a1 M9) fun M10 => some M10)) else none) else (pm_loop (fun _ _ _ => none) (fun (g11 : Int32 → Int32 → pm_M → Option (pm_M)) x13 x14 M12 => if x1 ≤ x14 then (some M12) else (pm_bd (sTruth_work a1 x13 M12) fun v16 M15 => if ¬ v16 = 0 then (pm_lt ((x14 + (1 : Int32))) fun x17 => g11 x13 x17 M15) else (pm_lt ((x13 + (1 : Int32))) fun x18 => pm_lt ((x14 + (1 : Int32))) fun x19 => g11 x18 x19 M15))) 1000000 (0 : Int32) (0 : Int32) M)) else (some M)) else none
abbrev I_Truth_serve (sh : Option (pm_M)) (σ : pm_St) : Prop := pm_Im none (pm_Ev 2) pm_T52 none pm_rV sh σ
set_option maxHeartbeats 4000000 in
set_option maxRecDepth 100000 in
theorem sTruth_serve_ok (a1 : Int32) (a2 : Int32) (M : pm_M) : ∀ r, sTruth_serve a1 a2 M = some r → pm_Ev 3 52 [.ref 30, .int a1, .int a2] M (pm_rV r).1 (pm_rV r).2 := by
  refine pm_meth (al := [some (.ref 30), some (.int a1), some (.int a2), none, none, none, none]) rfl rfl rfl rfl rfl ?_
  unfold sTruth_serve
  show I_Truth_serve _ (0, [some (.ref 30), some (.int a1), some (.int a2), none, none, none, none], [], M)
  refine pm_irun 3 (σ' := (5, [some (.ref 30), some (.int a1), some (.int a2), none, none, none, none], [.int a1, .ref 32], M)) rfl ?_
  refine pm_igd (σ1 := (6, [some (.ref 30), some (.int a1), some (.int a2), none, none, none, none], [.int (M.1 32 a1.toNatClampNeg)], M)) rfl (fun _ => ?_)
  refine pm_irun 1 (σ' := (7, [some (.ref 30), some (.int a1), some (.int a2), some (.int (M.1 32 a1.toNatClampNeg)), none, none, none], [], M)) rfl ?_
  refine pm_ilt (fun y => (7, [some (.ref 30), some (.int a1), some (.int a2), some (.int y), none, none, none], [], M)) (fun x1 => ?_)
  refine pm_irun 1 (σ' := (8, [some (.ref 30), some (.int a1), some (.int a2), some (.int x1), none, none, none], [.int x1], M)) rfl ?_
  refine pm_iite (σ1 := (12, [some (.ref 30), some (.int a1), some (.int a2), some (.int x1), none, none, none], [], M)) (σ2 := (11, [some (.ref 30), some (.int a1), some (.int a2), some (.int x1), none, none, none], [], M)) rfl (fun _ => ?_) (fun _ => ?_)
  · refine pm_irun 1 (σ' := (13, [some (.ref 30), some (.int a1), some (.int a2), some (.int x1), none, none, none], [.int a2], M)) rfl ?_
    refine pm_irun 1 (σ' := (pm_sw a2 98 [0, 40, 1, 50, 2, 62], [some (.ref 30), some (.int a1), some (.int a2), some (.int x1), none, none, none], [], M)) rfl ?_
    refine pm_isw (fun _ => ?_) (fun _ => ?_)
    · show pm_Im _ _ _ _ _ _ (40, [some (.ref 30), some (.int a1), some (.int a2), some (.int x1), none, none, none], [], M)
      refine pm_irun 3 (σ' := (43, [some (.ref 30), some (.int a1), some (.int a2), some (.int x1), none, none, none], [.int (0 : Int32), .int a1, .ref 30], M)) rfl ?_
      refine pm_icI (as := [.ref 30, .int a1, .int (0 : Int32)]) (rest := []) rfl rfl rfl rfl (Nat.le_of_ble_eq_true rfl) rfl (fun r h => pm_Ev_mono (Nat.le_of_ble_eq_true rfl) (sTruth_work_ok a1 (0 : Int32) M r h)) (fun v3 M2 => ?_)
      show pm_Im _ _ _ _ _ _ (46, [some (.ref 30), some (.int a1), some (.int a2), some (.int x1), none, none, none], [.int v3], M2)
      refine pm_irun 2 (σ' := (129, [some (.ref 30), some (.int a1), some (.int a2), some (.int x1), none, none, none], [], M2)) rfl ?_
      exact pm_irV rfl rfl
    refine pm_isw (fun _ => ?_) (fun _ => ?_)
    · show pm_Im _ _ _ _ _ _ (50, [some (.ref 30), some (.int a1), some (.int a2), some (.int x1), none, none, none], [], M)
      refine pm_irun 5 (σ' := (55, [some (.ref 30), some (.int a1), some (.int a2), some (.int x1), none, none, none], [.int (x1 - (1 : Int32)), .int a1, .ref 30], M)) rfl ?_
      refine pm_icI (as := [.ref 30, .int a1, .int (x1 - (1 : Int32))]) (rest := []) rfl rfl rfl rfl (Nat.le_of_ble_eq_true rfl) rfl (fun r h => pm_Ev_mono (Nat.le_of_ble_eq_true rfl) (sTruth_work_ok a1 (x1 - (1 : Int32)) M r h)) (fun v5 M4 => ?_)
      show pm_Im _ _ _ _ _ _ (58, [some (.ref 30), some (.int a1), some (.int a2), some (.int x1), none, none, none], [.int v5], M4)
      refine pm_irun 2 (σ' := (129, [some (.ref 30), some (.int a1), some (.int a2), some (.int x1), none, none, none], [], M4)) rfl ?_
      exact pm_irV rfl rfl
    refine pm_isw (fun _ => ?_) (fun _ => ?_)
    · show pm_Im _ _ _ _ _ _ (62, [some (.ref 30), some (.int a1), some (.int a2), some (.int x1), none, none, none], [], M)
      refine pm_irun 5 (σ' := (70, [some (.ref 30), some (.int a1), some (.int a2), some (.int x1), none, none, none], [.int (a1 * (8 : Int32)), .ref 31], M)) rfl ?_
      refine pm_igd (σ1 := (71, [some (.ref 30), some (.int a1), some (.int a2), some (.int x1), none, none, none], [.int (M.1 31 (a1 * (8 : Int32)).toNatClampNeg)], M)) rfl (fun _ => ?_)
      refine pm_irun 1 (σ' := (73, [some (.ref 30), some (.int a1), some (.int a2), some (.int x1), some (.int (M.1 31 (a1 * (8 : Int32)).toNatClampNeg)), none, none], [], M)) rfl ?_
      refine pm_ilt (fun y => (73, [some (.ref 30), some (.int a1), some (.int a2), some (.int x1), some (.int y), none, none], [], M)) (fun x6 => ?_)
      refine pm_irun 3 (σ' := (76, [some (.ref 30), some (.int a1), some (.int a2), some (.int x1), some (.int x6), none, none], [.int (0 : Int32), .int a1, .ref 30], M)) rfl ?_
      refine pm_icI (as := [.ref 30, .int a1, .int (0 : Int32)]) (rest := []) rfl rfl rfl rfl (Nat.le_of_ble_eq_true rfl) rfl (fun r h => pm_Ev_mono (Nat.le_of_ble_eq_true rfl) (sTruth_work_ok a1 (0 : Int32) M r h)) (fun v8 M7 => ?_)
      show pm_Im _ _ _ _ _ _ (79, [some (.ref 30), some (.int a1), some (.int a2), some (.int x1), some (.int x6), none, none], [.int v8], M7)
      refine pm_iite (σ1 := (129, [some (.ref 30), some (.int a1), some (.int a2), some (.int x1), some (.int x6), none, none], [], M7)) (σ2 := (82, [some (.ref 30), some (.int a1), some (.int a2), some (.int x1), some (.int x6), none, none], [], M7)) rfl (fun _ => ?_) (fun _ => ?_)
      · exact pm_irV rfl rfl
      · refine pm_irun 3 (σ' := (85, [some (.ref 30), some (.int a1), some (.int a2), some (.int x1), some (.int x6), none, none], [.int (0 : Int32), .int a1, .ref 30], M7)) rfl ?_
        refine pm_icV (as := [.ref 30, .int a1, .int (0 : Int32)]) (rest := []) rfl rfl rfl rfl (Nat.le_of_ble_eq_true rfl) rfl (fun r h => pm_Ev_mono (Nat.le_of_ble_eq_true rfl) (sTruth_takeOut_ok a1 (0 : Int32) M7 r h)) (fun M9 => ?_)
        show pm_Im _ _ _ _ _ _ (88, [some (.ref 30), some (.int a1), some (.int a2), some (.int x1), some (.int x6), none, none], [], M9)
        refine pm_irun 3 (σ' := (92, [some (.ref 30), some (.int a1), some (.int a2), some (.int x1), some (.int x6), none, none], [.int a1, .int x6, .ref 30], M9)) rfl ?_
        refine pm_icV (as := [.ref 30, .int x6, .int a1]) (rest := []) rfl rfl rfl rfl (Nat.le_of_ble_eq_true rfl) rfl (fun r h => pm_Ev_mono (Nat.le_of_ble_eq_true rfl) (sTruth_standLast_ok x6 a1 M9 r h)) (fun M10 => ?_)
        show pm_Im _ _ _ _ _ _ (95, [some (.ref 30), some (.int a1), some (.int a2), some (.int x1), some (.int x6), none, none], [], M10)
        refine pm_irun 1 (σ' := (129, [some (.ref 30), some (.int a1), some (.int a2), some (.int x1), some (.int x6), none, none], [], M10)) rfl ?_
        exact pm_irV rfl rfl
    show pm_Im _ _ _ _ _ _ (98, [some (.ref 30), some (.int a1), some (.int a2), some (.int x1), none, none, none], [], M)
    refine pm_irun 2 (σ' := (101, [some (.ref 30), some (.int a1), some (.int a2), some (.int x1), none, some (.int (0 : Int32)), none], [], M)) rfl ?_
    refine pm_irun 2 (σ' := (104, [some (.ref 30), some (.int a1), some (.int a2), some (.int x1), none, some (.int (0 : Int32)), some (.int (0 : Int32))], [], M)) rfl ?_
    refine pm_iwk (al' := [some (.ref 30), some (.int a1), none, some (.int x1), none, some (.int (0 : Int32)), some (.int (0 : Int32))]) (pm_wkS (pm_wkS (pm_wkN (pm_wkS (pm_wkS (pm_wkS (pm_wkS pm_wk0))))))) ?_
    refine pm_iloop (fun (g : Int32 → Int32 → pm_M → Option (pm_M)) => ∀ (x13 : Int32) (x14 : Int32) (M12 : pm_M), I_Truth_serve (g x13 x14 M12) (104, [some (.ref 30), some (.int a1), none, some (.int x1), none, some (.int x13), some (.int x14)], [], M12)) (fun _ _ _ => pm_inone) (fun g11 hg11 x13 x14 M12 => ?_) 1000000 _ _ _
    show I_Truth_serve _ (104, [some (.ref 30), some (.int a1), none, some (.int x1), none, some (.int x13), some (.int x14)], [], M12)
    refine pm_irun 2 (σ' := (107, [some (.ref 30), some (.int a1), none, some (.int x1), none, some (.int x13), some (.int x14)], [.int x1, .int x14], M12)) rfl ?_
    refine pm_iite (σ1 := (129, [some (.ref 30), some (.int a1), none, some (.int x1), none, some (.int x13), some (.int x14)], [], M12)) (σ2 := (110, [some (.ref 30), some (.int a1), none, some (.int x1), none, some (.int x13), some (.int x14)], [], M12)) rfl (fun _ => ?_) (fun _ => ?_)
    · exact pm_irV rfl rfl
    · refine pm_irun 3 (σ' := (114, [some (.ref 30), some (.int a1), none, some (.int x1), none, some (.int x13), some (.int x14)], [.int x13, .int a1, .ref 30], M12)) rfl ?_
      refine pm_icI (as := [.ref 30, .int a1, .int x13]) (rest := []) rfl rfl rfl rfl (Nat.le_of_ble_eq_true rfl) rfl (fun r h => pm_Ev_mono (Nat.le_of_ble_eq_true rfl) (sTruth_work_ok a1 x13 M12 r h)) (fun v16 M15 => ?_)
      show pm_Im _ _ _ _ _ _ (117, [some (.ref 30), some (.int a1), none, some (.int x1), none, some (.int x13), some (.int x14)], [.int v16], M15)
      refine pm_iite (σ1 := (123, [some (.ref 30), some (.int a1), none, some (.int x1), none, some (.int x13), some (.int x14)], [], M15)) (σ2 := (120, [some (.ref 30), some (.int a1), none, some (.int x1), none, some (.int x13), some (.int x14)], [], M15)) rfl (fun _ => ?_) (fun _ => ?_)
      · refine pm_irun 1 (σ' := (126, [some (.ref 30), some (.int a1), none, some (.int x1), none, some (.int x13), some (.int (x14 + (1 : Int32)))], [], M15)) rfl ?_
        refine pm_ilt (fun y => (126, [some (.ref 30), some (.int a1), none, some (.int x1), none, some (.int x13), some (.int y)], [], M15)) (fun x17 => ?_)
        refine pm_irun 1 (σ' := (104, [some (.ref 30), some (.int a1), none, some (.int x1), none, some (.int x13), some (.int x17)], [], M15)) rfl ?_
        exact hg11 _ _ _
      · refine pm_irun 1 (σ' := (123, [some (.ref 30), some (.int a1), none, some (.int x1), none, some (.int (x13 + (1 : Int32))), some (.int x14)], [], M15)) rfl ?_
        refine pm_ilt (fun y => (123, [some (.ref 30), some (.int a1), none, some (.int x1), none, some (.int y), some (.int x14)], [], M15)) (fun x18 => ?_)
        refine pm_irun 1 (σ' := (126, [some (.ref 30), some (.int a1), none, some (.int x1), none, some (.int x18), some (.int (x14 + (1 : Int32)))], [], M15)) rfl ?_
        refine pm_ilt (fun y => (126, [some (.ref 30), some (.int a1), none, some (.int x1), none, some (.int x18), some (.int y)], [], M15)) (fun x19 => ?_)
        refine pm_irun 1 (σ' := (104, [some (.ref 30), some (.int a1), none, some (.int x1), none, some (.int x18), some (.int x19)], [], M15)) rfl ?_
        exact hg11 _ _ _
  · exact pm_irV rfl rfl
def sTruth_turnOnce  (M : pm_M) : Option (Int32 × pm_M) := pm_lt (pm_sI M 30 5 (0 : Int32)) fun M1 => pm_loop (fun _ _ => none) (fun (g2 : Int32 → pm_M → Option (Int32 × pm_M)) x4 M3 => if (M3.1 1 0) ≤ x4 then (pm_loop (fun _ _ => none) (fun (g5 : Int32 → pm_M → Option (Int32 × pm_M)) x7 M6 => if (M6.1 30 5) ≤ x7 then (pm_lt (pm_sI M6 30 3 (((M6.1 30 3) + (1 : Int32)))) fun M8 => some ((M8.1 30 5), M8)) else (if pm_in x7 8 then (if pm_in x7 8 then (pm_bd (sTruth_drawGoal (M6.1 36 x7.toNatClampNeg) M6) fun v10 M9 => pm_bv (sTruth_arrive (M6.1 36 x7.toNatClampNeg) v10 M9) fun M11 => pm_lt ((x7 + (1 : Int32))) fun x12 => g5 x12 M11) else none) else none)) 1000000 (0 : Int32) M3) else (if pm_in x4 5 then (pm_bv (sTruth_serve x4 (M3.1 2 x4.toNatClampNeg) M3) fun M13 => pm_lt ((x4 + (1 : Int32))) fun x14 => g2 x14 M13) else none)) 1000000 (0 : Int32) M1
abbrev I_Truth_turnOnce (sh : Option (Int32 × pm_M)) (σ : pm_St) : Prop := pm_Im none (pm_Ev 3) pm_T47 (some .int) pm_rI sh σ
set_option maxHeartbeats 4000000 in
set_option maxRecDepth 100000 in
theorem sTruth_turnOnce_ok  (M : pm_M) : ∀ r, sTruth_turnOnce  M = some r → pm_Ev 4 47 [.ref 30, .ref 1] M (pm_rI r).1 (pm_rI r).2 := by
  refine pm_meth (al := [some (.ref 30), some (.ref 1), none]) rfl rfl rfl rfl rfl ?_
  unfold sTruth_turnOnce
  show I_Truth_turnOnce _ (0, [some (.ref 30), some (.ref 1), none], [], M)
  refine pm_irun 2 (σ' := (2, [some (.ref 30), some (.ref 1), none], [.int (0 : Int32), .ref 30], M)) rfl ?_
  refine pm_irun 1 (σ' := (5, [some (.ref 30), some (.ref 1), none], [], (pm_sI M 30 5 (0 : Int32)))) rfl ?_
  refine pm_ilt (fun y => (5, [some (.ref 30), some (.ref 1), none], [], y)) (fun M1 => ?_)
  refine pm_irun 2 (σ' := (7, [some (.ref 30), some (.ref 1), some (.int (0 : Int32))], [], M1)) rfl ?_
  refine pm_iloop (fun (g : Int32 → pm_M → Option (Int32 × pm_M)) => ∀ (x4 : Int32) (M3 : pm_M), I_Truth_turnOnce (g x4 M3) (7, [some (.ref 30), some (.ref 1), some (.int x4)], [], M3)) (fun _ _ => pm_inone) (fun g2 hg2 x4 M3 => ?_) 1000000 _ _
  show I_Truth_turnOnce _ (7, [some (.ref 30), some (.ref 1), some (.int x4)], [], M3)
  refine pm_irun 3 (σ' := (12, [some (.ref 30), some (.ref 1), some (.int x4)], [.int (M3.1 1 0), .int x4], M3)) rfl ?_
  refine pm_iite (σ1 := (32, [some (.ref 30), some (.ref 1), some (.int x4)], [], M3)) (σ2 := (15, [some (.ref 30), some (.ref 1), some (.int x4)], [], M3)) rfl (fun _ => ?_) (fun _ => ?_)
  · refine pm_irun 2 (σ' := (34, [some (.ref 30), some (.ref 1), some (.int (0 : Int32))], [], M3)) rfl ?_
    refine pm_iloop (fun (g : Int32 → pm_M → Option (Int32 × pm_M)) => ∀ (x7 : Int32) (M6 : pm_M), I_Truth_turnOnce (g x7 M6) (34, [some (.ref 30), some (.ref 1), some (.int x7)], [], M6)) (fun _ _ => pm_inone) (fun g5 hg5 x7 M6 => ?_) 1000000 _ _
    show I_Truth_turnOnce _ (34, [some (.ref 30), some (.ref 1), some (.int x7)], [], M6)
    refine pm_irun 3 (σ' := (39, [some (.ref 30), some (.ref 1), some (.int x7)], [.int (M6.1 30 5), .int x7], M6)) rfl ?_
    refine pm_iite (σ1 := (70, [some (.ref 30), some (.ref 1), some (.int x7)], [], M6)) (σ2 := (42, [some (.ref 30), some (.ref 1), some (.int x7)], [], M6)) rfl (fun _ => ?_) (fun _ => ?_)
    · refine pm_irun 5 (σ' := (77, [some (.ref 30), some (.ref 1), some (.int x7)], [.int ((M6.1 30 3) + (1 : Int32)), .ref 30], M6)) rfl ?_
      refine pm_irun 1 (σ' := (80, [some (.ref 30), some (.ref 1), some (.int x7)], [], (pm_sI M6 30 3 (((M6.1 30 3) + (1 : Int32)))))) rfl ?_
      refine pm_ilt (fun y => (80, [some (.ref 30), some (.ref 1), some (.int x7)], [], y)) (fun M8 => ?_)
      refine pm_irun 2 (σ' := (84, [some (.ref 30), some (.ref 1), some (.int x7)], [.int (M8.1 30 5)], M8)) rfl ?_
      exact pm_irI rfl rfl
    · refine pm_irun 5 (σ' := (49, [some (.ref 30), some (.ref 1), some (.int x7)], [.int x7, .ref 36, .ref 1, .ref 30], M6)) rfl ?_
      refine pm_igd (σ1 := (50, [some (.ref 30), some (.ref 1), some (.int x7)], [.int (M6.1 36 x7.toNatClampNeg), .ref 1, .ref 30], M6)) rfl (fun _ => ?_)
      refine pm_irun 5 (σ' := (57, [some (.ref 30), some (.ref 1), some (.int x7)], [.int x7, .ref 36, .ref 1, .ref 30, .int (M6.1 36 x7.toNatClampNeg), .ref 1, .ref 30], M6)) rfl ?_
      refine pm_igd (σ1 := (58, [some (.ref 30), some (.ref 1), some (.int x7)], [.int (M6.1 36 x7.toNatClampNeg), .ref 1, .ref 30, .int (M6.1 36 x7.toNatClampNeg), .ref 1, .ref 30], M6)) rfl (fun _ => ?_)
      refine pm_icI (as := [.ref 30, .ref 1, .int (M6.1 36 x7.toNatClampNeg)]) (rest := [.int (M6.1 36 x7.toNatClampNeg), .ref 1, .ref 30]) rfl rfl rfl rfl (Nat.le_of_ble_eq_true rfl) rfl (fun r h => pm_Ev_mono (Nat.le_of_ble_eq_true rfl) (sTruth_drawGoal_ok (M6.1 36 x7.toNatClampNeg) M6 r h)) (fun v10 M9 => ?_)
      show pm_Im _ _ _ _ _ _ (61, [some (.ref 30), some (.ref 1), some (.int x7)], [.int v10, .int (M6.1 36 x7.toNatClampNeg), .ref 1, .ref 30], M9)
      refine pm_icV (as := [.ref 30, .ref 1, .int (M6.1 36 x7.toNatClampNeg), .int v10]) (rest := []) rfl rfl rfl rfl (Nat.le_of_ble_eq_true rfl) rfl (fun r h => pm_Ev_mono (Nat.le_of_ble_eq_true rfl) (sTruth_arrive_ok (M6.1 36 x7.toNatClampNeg) v10 M9 r h)) (fun M11 => ?_)
      show pm_Im _ _ _ _ _ _ (64, [some (.ref 30), some (.ref 1), some (.int x7)], [], M11)
      refine pm_irun 1 (σ' := (67, [some (.ref 30), some (.ref 1), some (.int (x7 + (1 : Int32)))], [], M11)) rfl ?_
      refine pm_ilt (fun y => (67, [some (.ref 30), some (.ref 1), some (.int y)], [], M11)) (fun x12 => ?_)
      refine pm_irun 1 (σ' := (34, [some (.ref 30), some (.ref 1), some (.int x12)], [], M11)) rfl ?_
      exact hg5 _ _
  · refine pm_irun 5 (σ' := (22, [some (.ref 30), some (.ref 1), some (.int x4)], [.int x4, .ref 2, .int x4, .ref 30], M3)) rfl ?_
    refine pm_igd (σ1 := (23, [some (.ref 30), some (.ref 1), some (.int x4)], [.int (M3.1 2 x4.toNatClampNeg), .int x4, .ref 30], M3)) rfl (fun _ => ?_)
    refine pm_icV (as := [.ref 30, .int x4, .int (M3.1 2 x4.toNatClampNeg)]) (rest := []) rfl rfl rfl rfl (Nat.le_of_ble_eq_true rfl) rfl (fun r h => pm_Ev_mono (Nat.le_of_ble_eq_true rfl) (sTruth_serve_ok x4 (M3.1 2 x4.toNatClampNeg) M3 r h)) (fun M13 => ?_)
    show pm_Im _ _ _ _ _ _ (26, [some (.ref 30), some (.ref 1), some (.int x4)], [], M13)
    refine pm_irun 1 (σ' := (29, [some (.ref 30), some (.ref 1), some (.int (x4 + (1 : Int32)))], [], M13)) rfl ?_
    refine pm_ilt (fun y => (29, [some (.ref 30), some (.ref 1), some (.int y)], [], M13)) (fun x14 => ?_)
    refine pm_irun 1 (σ' := (7, [some (.ref 30), some (.ref 1), some (.int x14)], [], M13)) rfl ?_
    exact hg2 _ _
