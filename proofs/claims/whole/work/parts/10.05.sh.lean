def sC_readState_0_44  (M : pm_M) : Option (Int32 × pm_M) := pm_bd (sSheet_isMissing_44 M) fun v2 M1 => if ¬ v2 = 0 then (some ((0 : Int32), M1)) else (if (M1.1 44 1) = ((2 : Int32) * (M1.1 1 0)) then (pm_loop (fun _ _ => none) (fun (g3 : Int32 → pm_M → Option (Int32 × pm_M)) x5 M4 => if (2 : Int32) ≤ x5 then (some ((1 : Int32), M4)) else (if pm_in x5 2 then (pm_lt ((M4.1 5 x5.toNatClampNeg)) fun x6 => pm_loop (fun _ _ _ => none) (fun (g7 : Int32 → Int32 → pm_M → Option (Int32 × pm_M)) x9 x10 M8 => if (M8.1 1 0) ≤ x10 then (if x9 = 0 then (pm_lt ((x5 + (1 : Int32))) fun x11 => g3 x11 M8) else (some ((0 : Int32), M8))) else (if pm_in ((x5 * (M8.1 1 0)) + x10) 40 then (pm_lt ((M8.2 45 ((x5 * (M8.1 1 0)) + x10).toNatClampNeg)) fun x12 => if (lg_cmp x12 (0 : Int64)) < 0 then (some ((0 : Int32), M8)) else (if (lg_cmp x12 x9.toInt64) ≤ 0 then (pm_jn (fun (M14 : pm_M) => if pm_in ((x5 * (5 : Int32)) + x10) 10 then (pm_lt (pm_sI M14 48 ((x5 * (5 : Int32)) + x10).toNatClampNeg (x12.toInt32)) fun M15 => pm_lt ((x9 - x12.toInt32)) fun x16 => pm_lt ((x10 + (1 : Int32))) fun x17 => g7 x16 x17 M15) else none) fun (j13 : pm_M → Option (Int32 × pm_M)) => if (lg_cmp x12 (0 : Int64)) ≤ 0 then (j13 M8) else (pm_bd (sTours_visitsOf x5 x10 M8) fun v19 M18 => if ¬ (lg_cmp v19 (0 : Int64)) = 0 then (j13 M18) else (some ((0 : Int32), M18)))) else (some ((0 : Int32), M8)))) else none)) 1000000 x6 (0 : Int32) M4) else none)) 1000000 (0 : Int32) M1) else (some ((0 : Int32), M1)))
abbrev I_C_readState_0_44 (sh : Option (Int32 × pm_M)) (σ : pm_St) : Prop := pm_Im none (pm_Ev 1) pm_T105 (some .boolean) pm_rI sh σ
set_option maxHeartbeats 4000000 in
set_option maxRecDepth 100000 in
theorem sC_readState_0_44_ok  (M : pm_M) : ∀ r, sC_readState_0_44  M = some r → pm_Ev 2 105 [.ref 0, .ref 44] M (pm_rI r).1 (pm_rI r).2 := by
  refine pm_meth (al := [some (.ref 0), some (.ref 44), none, none, none, none, none]) rfl rfl rfl rfl rfl ?_
  unfold sC_readState_0_44
  show I_C_readState_0_44 _ (0, [some (.ref 0), some (.ref 44), none, none, none, none, none], [], M)
  refine pm_irun 1 (σ' := (1, [some (.ref 0), some (.ref 44), none, none, none, none, none], [.ref 44], M)) rfl ?_
  refine pm_icI (as := [.ref 44]) (rest := []) rfl rfl rfl rfl (Nat.le_of_ble_eq_true rfl) rfl (fun r h => pm_Ev_mono (Nat.le_of_ble_eq_true rfl) (sSheet_isMissing_44_ok M r h)) (fun v2 M1 => ?_)
  show pm_Im _ _ _ _ _ _ (4, [some (.ref 0), some (.ref 44), none, none, none, none, none], [.int v2], M1)
  refine pm_iite (σ1 := (23, [some (.ref 0), some (.ref 44), none, none, none, none, none], [], M1)) (σ2 := (7, [some (.ref 0), some (.ref 44), none, none, none, none, none], [], M1)) rfl (fun _ => ?_) (fun _ => ?_)
  · refine pm_irun 1 (σ' := (24, [some (.ref 0), some (.ref 44), none, none, none, none, none], [.int (0 : Int32)], M1)) rfl ?_
    exact pm_irZ (Or.inl rfl) rfl rfl
  · refine pm_irun 7 (σ' := (20, [some (.ref 0), some (.ref 44), none, none, none, none, none], [.int ((2 : Int32) * (M1.1 1 0)), .int (M1.1 44 1)], M1)) rfl ?_
    refine pm_iite (σ1 := (25, [some (.ref 0), some (.ref 44), none, none, none, none, none], [], M1)) (σ2 := (23, [some (.ref 0), some (.ref 44), none, none, none, none, none], [], M1)) rfl (fun _ => ?_) (fun _ => ?_)
    · refine pm_irun 2 (σ' := (27, [some (.ref 0), some (.ref 44), some (.int (0 : Int32)), none, none, none, none], [], M1)) rfl ?_
      refine pm_iloop (fun (g : Int32 → pm_M → Option (Int32 × pm_M)) => ∀ (x5 : Int32) (M4 : pm_M), I_C_readState_0_44 (g x5 M4) (27, [some (.ref 0), some (.ref 44), some (.int x5), none, none, none, none], [], M4)) (fun _ _ => pm_inone) (fun g3 hg3 x5 M4 => ?_) 1000000 _ _
      show I_C_readState_0_44 _ (27, [some (.ref 0), some (.ref 44), some (.int x5), none, none, none, none], [], M4)
      refine pm_irun 2 (σ' := (29, [some (.ref 0), some (.ref 44), some (.int x5), none, none, none, none], [.int (2 : Int32), .int x5], M4)) rfl ?_
      refine pm_iite (σ1 := (155, [some (.ref 0), some (.ref 44), some (.int x5), none, none, none, none], [], M4)) (σ2 := (32, [some (.ref 0), some (.ref 44), some (.int x5), none, none, none, none], [], M4)) rfl (fun _ => ?_) (fun _ => ?_)
      · refine pm_irun 1 (σ' := (156, [some (.ref 0), some (.ref 44), some (.int x5), none, none, none, none], [.int (1 : Int32)], M4)) rfl ?_
        exact pm_irZ (Or.inr rfl) rfl rfl
      · refine pm_irun 4 (σ' := (40, [some (.ref 0), some (.ref 44), some (.int x5), none, none, none, none], [.int x5, .ref 5], M4)) rfl ?_
        refine pm_igd (σ1 := (41, [some (.ref 0), some (.ref 44), some (.int x5), none, none, none, none], [.int (M4.1 5 x5.toNatClampNeg)], M4)) rfl (fun _ => ?_)
        refine pm_irun 1 (σ' := (42, [some (.ref 0), some (.ref 44), some (.int x5), some (.int (M4.1 5 x5.toNatClampNeg)), none, none, none], [], M4)) rfl ?_
        refine pm_ilt (fun y => (42, [some (.ref 0), some (.ref 44), some (.int x5), some (.int y), none, none, none], [], M4)) (fun x6 => ?_)
        refine pm_irun 2 (σ' := (45, [some (.ref 0), some (.ref 44), some (.int x5), some (.int x6), some (.int (0 : Int32)), none, none], [], M4)) rfl ?_
        refine pm_iloop (fun (g : Int32 → Int32 → pm_M → Option (Int32 × pm_M)) => ∀ (x9 : Int32) (x10 : Int32) (M8 : pm_M), I_C_readState_0_44 (g x9 x10 M8) (45, [some (.ref 0), some (.ref 44), some (.int x5), some (.int x9), some (.int x10), none, none], [], M8)) (fun _ _ _ => pm_inone) (fun g7 hg7 x9 x10 M8 => ?_) 1000000 _ _ _
        show I_C_readState_0_44 _ (45, [some (.ref 0), some (.ref 44), some (.int x5), some (.int x9), some (.int x10), none, none], [], M8)
        refine pm_irun 4 (σ' := (54, [some (.ref 0), some (.ref 44), some (.int x5), some (.int x9), some (.int x10), none, none], [.int (M8.1 1 0), .int x10], M8)) rfl ?_
        refine pm_iite (σ1 := (143, [some (.ref 0), some (.ref 44), some (.int x5), some (.int x9), some (.int x10), none, none], [], M8)) (σ2 := (57, [some (.ref 0), some (.ref 44), some (.int x5), some (.int x9), some (.int x10), none, none], [], M8)) rfl (fun _ => ?_) (fun _ => ?_)
        · refine pm_irun 1 (σ' := (144, [some (.ref 0), some (.ref 44), some (.int x5), some (.int x9), some (.int x10), none, none], [.int x9], M8)) rfl ?_
          refine pm_iite (σ1 := (149, [some (.ref 0), some (.ref 44), some (.int x5), some (.int x9), some (.int x10), none, none], [], M8)) (σ2 := (147, [some (.ref 0), some (.ref 44), some (.int x5), some (.int x9), some (.int x10), none, none], [], M8)) rfl (fun _ => ?_) (fun _ => ?_)
          · refine pm_irun 1 (σ' := (152, [some (.ref 0), some (.ref 44), some (.int (x5 + (1 : Int32))), some (.int x9), some (.int x10), none, none], [], M8)) rfl ?_
            refine pm_ilt (fun y => (152, [some (.ref 0), some (.ref 44), some (.int y), some (.int x9), some (.int x10), none, none], [], M8)) (fun x11 => ?_)
            refine pm_irun 1 (σ' := (27, [some (.ref 0), some (.ref 44), some (.int x11), some (.int x9), some (.int x10), none, none], [], M8)) rfl ?_
            refine pm_iwk (al' := [some (.ref 0), some (.ref 44), some (.int x11), none, none, none, none]) (pm_wkS (pm_wkS (pm_wkS (pm_wkN (pm_wkN (pm_wkS (pm_wkS pm_wk0))))))) ?_
            exact hg3 _ _
          · refine pm_irun 1 (σ' := (148, [some (.ref 0), some (.ref 44), some (.int x5), some (.int x9), some (.int x10), none, none], [.int (0 : Int32)], M8)) rfl ?_
            exact pm_irZ (Or.inl rfl) rfl rfl
        · refine pm_irun 8 (σ' := (72, [some (.ref 0), some (.ref 44), some (.int x5), some (.int x9), some (.int x10), none, none], [.int x10, .int (x5 * (M8.1 1 0)), .ref 45], M8)) rfl ?_
          refine pm_irun 1 (σ' := (73, [some (.ref 0), some (.ref 44), some (.int x5), some (.int x9), some (.int x10), none, none], [.int ((x5 * (M8.1 1 0)) + x10), .ref 45], M8)) rfl ?_
          refine pm_igd (σ1 := (74, [some (.ref 0), some (.ref 44), some (.int x5), some (.int x9), some (.int x10), none, none], [.long (M8.2 45 ((x5 * (M8.1 1 0)) + x10).toNatClampNeg)], M8)) rfl (fun _ => ?_)
          refine pm_irun 1 (σ' := (76, [some (.ref 0), some (.ref 44), some (.int x5), some (.int x9), some (.int x10), some (.long (M8.2 45 ((x5 * (M8.1 1 0)) + x10).toNatClampNeg)), none], [], M8)) rfl ?_
          refine pm_ilt (fun y => (76, [some (.ref 0), some (.ref 44), some (.int x5), some (.int x9), some (.int x10), some (.long y), none], [], M8)) (fun x12 => ?_)
          refine pm_irun 3 (σ' := (80, [some (.ref 0), some (.ref 44), some (.int x5), some (.int x9), some (.int x10), some (.long x12), none], [.int (lg_cmp x12 (0 : Int64))], M8)) rfl ?_
          refine pm_iite (σ1 := (91, [some (.ref 0), some (.ref 44), some (.int x5), some (.int x9), some (.int x10), some (.long x12), none], [], M8)) (σ2 := (83, [some (.ref 0), some (.ref 44), some (.int x5), some (.int x9), some (.int x10), some (.long x12), none], [], M8)) rfl (fun _ => ?_) (fun _ => ?_)
          · refine pm_irun 1 (σ' := (92, [some (.ref 0), some (.ref 44), some (.int x5), some (.int x9), some (.int x10), some (.long x12), none], [.int (0 : Int32)], M8)) rfl ?_
            exact pm_irZ (Or.inl rfl) rfl rfl
          · refine pm_irun 4 (σ' := (88, [some (.ref 0), some (.ref 44), some (.int x5), some (.int x9), some (.int x10), some (.long x12), none], [.int (lg_cmp x12 x9.toInt64)], M8)) rfl ?_
            refine pm_iite (σ1 := (93, [some (.ref 0), some (.ref 44), some (.int x5), some (.int x9), some (.int x10), some (.long x12), none], [], M8)) (σ2 := (91, [some (.ref 0), some (.ref 44), some (.int x5), some (.int x9), some (.int x10), some (.long x12), none], [], M8)) rfl (fun _ => ?_) (fun _ => ?_)
            · refine pm_irun 3 (σ' := (97, [some (.ref 0), some (.ref 44), some (.int x5), some (.int x9), some (.int x10), some (.long x12), none], [.int (lg_cmp x12 (0 : Int64))], M8)) rfl ?_
              refine pm_ijn (fun (g : pm_M → Option (Int32 × pm_M)) => ∀ (M14 : pm_M), I_C_readState_0_44 (g M14) (117, [some (.ref 0), some (.ref 44), some (.int x5), some (.int x9), some (.int x10), some (.long x12), none], [], M14)) (fun (M14 : pm_M) => ?_) (fun j13 hj13 => ?_)
              · show I_C_readState_0_44 _ (117, [some (.ref 0), some (.ref 44), some (.int x5), some (.int x9), some (.int x10), some (.long x12), none], [], M14)
                refine pm_irun 8 (σ' := (129, [some (.ref 0), some (.ref 44), some (.int x5), some (.int x9), some (.int x10), some (.long x12), none], [.long x12, .int ((x5 * (5 : Int32)) + x10), .ref 48], M14)) rfl ?_
                refine pm_irun 1 (σ' := (130, [some (.ref 0), some (.ref 44), some (.int x5), some (.int x9), some (.int x10), some (.long x12), none], [.int x12.toInt32, .int ((x5 * (5 : Int32)) + x10), .ref 48], M14)) rfl ?_
                refine pm_igd (σ1 := (131, [some (.ref 0), some (.ref 44), some (.int x5), some (.int x9), some (.int x10), some (.long x12), none], [], (pm_sI M14 48 ((x5 * (5 : Int32)) + x10).toNatClampNeg (x12.toInt32)))) rfl (fun _ => ?_)
                refine pm_ilt (fun y => (131, [some (.ref 0), some (.ref 44), some (.int x5), some (.int x9), some (.int x10), some (.long x12), none], [], y)) (fun M15 => ?_)
                refine pm_irun 5 (σ' := (137, [some (.ref 0), some (.ref 44), some (.int x5), some (.int (x9 - x12.toInt32)), some (.int x10), some (.long x12), none], [], M15)) rfl ?_
                refine pm_ilt (fun y => (137, [some (.ref 0), some (.ref 44), some (.int x5), some (.int y), some (.int x10), some (.long x12), none], [], M15)) (fun x16 => ?_)
                refine pm_irun 1 (σ' := (140, [some (.ref 0), some (.ref 44), some (.int x5), some (.int x16), some (.int (x10 + (1 : Int32))), some (.long x12), none], [], M15)) rfl ?_
                refine pm_ilt (fun y => (140, [some (.ref 0), some (.ref 44), some (.int x5), some (.int x16), some (.int y), some (.long x12), none], [], M15)) (fun x17 => ?_)
                refine pm_irun 1 (σ' := (45, [some (.ref 0), some (.ref 44), some (.int x5), some (.int x16), some (.int x17), some (.long x12), none], [], M15)) rfl ?_
                refine pm_iwk (al' := [some (.ref 0), some (.ref 44), some (.int x5), some (.int x16), some (.int x17), none, none]) (pm_wkS (pm_wkS (pm_wkS (pm_wkS (pm_wkS (pm_wkN (pm_wkS pm_wk0))))))) ?_
                exact hg7 _ _ _
              refine pm_iite (σ1 := (117, [some (.ref 0), some (.ref 44), some (.int x5), some (.int x9), some (.int x10), some (.long x12), none], [], M8)) (σ2 := (100, [some (.ref 0), some (.ref 44), some (.int x5), some (.int x9), some (.int x10), some (.long x12), none], [], M8)) rfl (fun _ => ?_) (fun _ => ?_)
              · exact hj13 _
              · refine pm_irun 4 (σ' := (107, [some (.ref 0), some (.ref 44), some (.int x5), some (.int x9), some (.int x10), some (.long x12), none], [.int x10, .int x5, .ref 15], M8)) rfl ?_
                refine pm_icL (as := [.ref 15, .int x5, .int x10]) (rest := []) rfl rfl rfl rfl (Nat.le_of_ble_eq_true rfl) rfl (fun r h => pm_Ev_mono (Nat.le_of_ble_eq_true rfl) (sTours_visitsOf_ok x5 x10 M8 r h)) (fun v19 M18 => ?_)
                show pm_Im _ _ _ _ _ _ (110, [some (.ref 0), some (.ref 44), some (.int x5), some (.int x9), some (.int x10), some (.long x12), none], [.long v19], M18)
                refine pm_irun 2 (σ' := (112, [some (.ref 0), some (.ref 44), some (.int x5), some (.int x9), some (.int x10), some (.long x12), none], [.int (lg_cmp v19 (0 : Int64))], M18)) rfl ?_
                refine pm_iite (σ1 := (117, [some (.ref 0), some (.ref 44), some (.int x5), some (.int x9), some (.int x10), some (.long x12), none], [], M18)) (σ2 := (115, [some (.ref 0), some (.ref 44), some (.int x5), some (.int x9), some (.int x10), some (.long x12), none], [], M18)) rfl (fun _ => ?_) (fun _ => ?_)
                · exact hj13 _
                · refine pm_irun 1 (σ' := (116, [some (.ref 0), some (.ref 44), some (.int x5), some (.int x9), some (.int x10), some (.long x12), none], [.int (0 : Int32)], M18)) rfl ?_
                  exact pm_irZ (Or.inl rfl) rfl rfl
            · refine pm_irun 1 (σ' := (92, [some (.ref 0), some (.ref 44), some (.int x5), some (.int x9), some (.int x10), some (.long x12), none], [.int (0 : Int32)], M8)) rfl ?_
              exact pm_irZ (Or.inl rfl) rfl rfl
    · refine pm_irun 1 (σ' := (24, [some (.ref 0), some (.ref 44), none, none, none, none, none], [.int (0 : Int32)], M1)) rfl ?_
      exact pm_irZ (Or.inl rfl) rfl rfl
def sSheet_isMissing_46  (M : pm_M) : Option (Int32 × pm_M) := if ¬ (M.1 46 0) = (-1 : Int32) then (some ((0 : Int32), M)) else (some ((1 : Int32), M))
abbrev I_Sheet_isMissing_46 (sh : Option (Int32 × pm_M)) (σ : pm_St) : Prop := pm_Im none (pm_Ev 0) pm_T9 (some .boolean) pm_rI sh σ
set_option maxHeartbeats 4000000 in
set_option maxRecDepth 100000 in
theorem sSheet_isMissing_46_ok  (M : pm_M) : ∀ r, sSheet_isMissing_46  M = some r → pm_Ev 1 9 [.ref 46] M (pm_rI r).1 (pm_rI r).2 := by
  refine pm_meth (al := [some (.ref 46)]) rfl rfl rfl rfl rfl ?_
  unfold sSheet_isMissing_46
  show I_Sheet_isMissing_46 _ (0, [some (.ref 46)], [], M)
  refine pm_irun 3 (σ' := (5, [some (.ref 46)], [.int (-1 : Int32), .int (M.1 46 0)], M)) rfl ?_
  refine pm_iite (σ1 := (12, [some (.ref 46)], [], M)) (σ2 := (8, [some (.ref 46)], [], M)) rfl (fun _ => ?_) (fun _ => ?_)
  · refine pm_irun 1 (σ' := (13, [some (.ref 46)], [.int (0 : Int32)], M)) rfl ?_
    exact pm_irZ (Or.inl rfl) rfl rfl
  · refine pm_irun 2 (σ' := (13, [some (.ref 46)], [.int (1 : Int32)], M)) rfl ?_
    exact pm_irZ (Or.inr rfl) rfl rfl
def sC_readState_0_46  (M : pm_M) : Option (Int32 × pm_M) := pm_bd (sSheet_isMissing_46 M) fun v2 M1 => if ¬ v2 = 0 then (some ((0 : Int32), M1)) else (if (M1.1 46 1) = ((2 : Int32) * (M1.1 1 0)) then (pm_loop (fun _ _ => none) (fun (g3 : Int32 → pm_M → Option (Int32 × pm_M)) x5 M4 => if (2 : Int32) ≤ x5 then (some ((1 : Int32), M4)) else (if pm_in x5 2 then (pm_lt ((M4.1 5 x5.toNatClampNeg)) fun x6 => pm_loop (fun _ _ _ => none) (fun (g7 : Int32 → Int32 → pm_M → Option (Int32 × pm_M)) x9 x10 M8 => if (M8.1 1 0) ≤ x10 then (if x9 = 0 then (pm_lt ((x5 + (1 : Int32))) fun x11 => g3 x11 M8) else (some ((0 : Int32), M8))) else (if pm_in ((x5 * (M8.1 1 0)) + x10) 40 then (pm_lt ((M8.2 47 ((x5 * (M8.1 1 0)) + x10).toNatClampNeg)) fun x12 => if (lg_cmp x12 (0 : Int64)) < 0 then (some ((0 : Int32), M8)) else (if (lg_cmp x12 x9.toInt64) ≤ 0 then (pm_jn (fun (M14 : pm_M) => if pm_in ((x5 * (5 : Int32)) + x10) 10 then (pm_lt (pm_sI M14 48 ((x5 * (5 : Int32)) + x10).toNatClampNeg (x12.toInt32)) fun M15 => pm_lt ((x9 - x12.toInt32)) fun x16 => pm_lt ((x10 + (1 : Int32))) fun x17 => g7 x16 x17 M15) else none) fun (j13 : pm_M → Option (Int32 × pm_M)) => if (lg_cmp x12 (0 : Int64)) ≤ 0 then (j13 M8) else (pm_bd (sTours_visitsOf x5 x10 M8) fun v19 M18 => if ¬ (lg_cmp v19 (0 : Int64)) = 0 then (j13 M18) else (some ((0 : Int32), M18)))) else (some ((0 : Int32), M8)))) else none)) 1000000 x6 (0 : Int32) M4) else none)) 1000000 (0 : Int32) M1) else (some ((0 : Int32), M1)))
abbrev I_C_readState_0_46 (sh : Option (Int32 × pm_M)) (σ : pm_St) : Prop := pm_Im none (pm_Ev 1) pm_T105 (some .boolean) pm_rI sh σ
set_option maxHeartbeats 4000000 in
set_option maxRecDepth 100000 in
theorem sC_readState_0_46_ok  (M : pm_M) : ∀ r, sC_readState_0_46  M = some r → pm_Ev 2 105 [.ref 0, .ref 46] M (pm_rI r).1 (pm_rI r).2 := by
  refine pm_meth (al := [some (.ref 0), some (.ref 46), none, none, none, none, none]) rfl rfl rfl rfl rfl ?_
  unfold sC_readState_0_46
  show I_C_readState_0_46 _ (0, [some (.ref 0), some (.ref 46), none, none, none, none, none], [], M)
  refine pm_irun 1 (σ' := (1, [some (.ref 0), some (.ref 46), none, none, none, none, none], [.ref 46], M)) rfl ?_
  refine pm_icI (as := [.ref 46]) (rest := []) rfl rfl rfl rfl (Nat.le_of_ble_eq_true rfl) rfl (fun r h => pm_Ev_mono (Nat.le_of_ble_eq_true rfl) (sSheet_isMissing_46_ok M r h)) (fun v2 M1 => ?_)
  show pm_Im _ _ _ _ _ _ (4, [some (.ref 0), some (.ref 46), none, none, none, none, none], [.int v2], M1)
  refine pm_iite (σ1 := (23, [some (.ref 0), some (.ref 46), none, none, none, none, none], [], M1)) (σ2 := (7, [some (.ref 0), some (.ref 46), none, none, none, none, none], [], M1)) rfl (fun _ => ?_) (fun _ => ?_)
  · refine pm_irun 1 (σ' := (24, [some (.ref 0), some (.ref 46), none, none, none, none, none], [.int (0 : Int32)], M1)) rfl ?_
    exact pm_irZ (Or.inl rfl) rfl rfl
  · refine pm_irun 7 (σ' := (20, [some (.ref 0), some (.ref 46), none, none, none, none, none], [.int ((2 : Int32) * (M1.1 1 0)), .int (M1.1 46 1)], M1)) rfl ?_
    refine pm_iite (σ1 := (25, [some (.ref 0), some (.ref 46), none, none, none, none, none], [], M1)) (σ2 := (23, [some (.ref 0), some (.ref 46), none, none, none, none, none], [], M1)) rfl (fun _ => ?_) (fun _ => ?_)
    · refine pm_irun 2 (σ' := (27, [some (.ref 0), some (.ref 46), some (.int (0 : Int32)), none, none, none, none], [], M1)) rfl ?_
      refine pm_iloop (fun (g : Int32 → pm_M → Option (Int32 × pm_M)) => ∀ (x5 : Int32) (M4 : pm_M), I_C_readState_0_46 (g x5 M4) (27, [some (.ref 0), some (.ref 46), some (.int x5), none, none, none, none], [], M4)) (fun _ _ => pm_inone) (fun g3 hg3 x5 M4 => ?_) 1000000 _ _
      show I_C_readState_0_46 _ (27, [some (.ref 0), some (.ref 46), some (.int x5), none, none, none, none], [], M4)
      refine pm_irun 2 (σ' := (29, [some (.ref 0), some (.ref 46), some (.int x5), none, none, none, none], [.int (2 : Int32), .int x5], M4)) rfl ?_
      refine pm_iite (σ1 := (155, [some (.ref 0), some (.ref 46), some (.int x5), none, none, none, none], [], M4)) (σ2 := (32, [some (.ref 0), some (.ref 46), some (.int x5), none, none, none, none], [], M4)) rfl (fun _ => ?_) (fun _ => ?_)
      · refine pm_irun 1 (σ' := (156, [some (.ref 0), some (.ref 46), some (.int x5), none, none, none, none], [.int (1 : Int32)], M4)) rfl ?_
        exact pm_irZ (Or.inr rfl) rfl rfl
      · refine pm_irun 4 (σ' := (40, [some (.ref 0), some (.ref 46), some (.int x5), none, none, none, none], [.int x5, .ref 5], M4)) rfl ?_
        refine pm_igd (σ1 := (41, [some (.ref 0), some (.ref 46), some (.int x5), none, none, none, none], [.int (M4.1 5 x5.toNatClampNeg)], M4)) rfl (fun _ => ?_)
        refine pm_irun 1 (σ' := (42, [some (.ref 0), some (.ref 46), some (.int x5), some (.int (M4.1 5 x5.toNatClampNeg)), none, none, none], [], M4)) rfl ?_
        refine pm_ilt (fun y => (42, [some (.ref 0), some (.ref 46), some (.int x5), some (.int y), none, none, none], [], M4)) (fun x6 => ?_)
        refine pm_irun 2 (σ' := (45, [some (.ref 0), some (.ref 46), some (.int x5), some (.int x6), some (.int (0 : Int32)), none, none], [], M4)) rfl ?_
        refine pm_iloop (fun (g : Int32 → Int32 → pm_M → Option (Int32 × pm_M)) => ∀ (x9 : Int32) (x10 : Int32) (M8 : pm_M), I_C_readState_0_46 (g x9 x10 M8) (45, [some (.ref 0), some (.ref 46), some (.int x5), some (.int x9), some (.int x10), none, none], [], M8)) (fun _ _ _ => pm_inone) (fun g7 hg7 x9 x10 M8 => ?_) 1000000 _ _ _
        show I_C_readState_0_46 _ (45, [some (.ref 0), some (.ref 46), some (.int x5), some (.int x9), some (.int x10), none, none], [], M8)
        refine pm_irun 4 (σ' := (54, [some (.ref 0), some (.ref 46), some (.int x5), some (.int x9), some (.int x10), none, none], [.int (M8.1 1 0), .int x10], M8)) rfl ?_
        refine pm_iite (σ1 := (143, [some (.ref 0), some (.ref 46), some (.int x5), some (.int x9), some (.int x10), none, none], [], M8)) (σ2 := (57, [some (.ref 0), some (.ref 46), some (.int x5), some (.int x9), some (.int x10), none, none], [], M8)) rfl (fun _ => ?_) (fun _ => ?_)
        · refine pm_irun 1 (σ' := (144, [some (.ref 0), some (.ref 46), some (.int x5), some (.int x9), some (.int x10), none, none], [.int x9], M8)) rfl ?_
          refine pm_iite (σ1 := (149, [some (.ref 0), some (.ref 46), some (.int x5), some (.int x9), some (.int x10), none, none], [], M8)) (σ2 := (147, [some (.ref 0), some (.ref 46), some (.int x5), some (.int x9), some (.int x10), none, none], [], M8)) rfl (fun _ => ?_) (fun _ => ?_)
          · refine pm_irun 1 (σ' := (152, [some (.ref 0), some (.ref 46), some (.int (x5 + (1 : Int32))), some (.int x9), some (.int x10), none, none], [], M8)) rfl ?_
            refine pm_ilt (fun y => (152, [some (.ref 0), some (.ref 46), some (.int y), some (.int x9), some (.int x10), none, none], [], M8)) (fun x11 => ?_)
            refine pm_irun 1 (σ' := (27, [some (.ref 0), some (.ref 46), some (.int x11), some (.int x9), some (.int x10), none, none], [], M8)) rfl ?_
            refine pm_iwk (al' := [some (.ref 0), some (.ref 46), some (.int x11), none, none, none, none]) (pm_wkS (pm_wkS (pm_wkS (pm_wkN (pm_wkN (pm_wkS (pm_wkS pm_wk0))))))) ?_
            exact hg3 _ _
          · refine pm_irun 1 (σ' := (148, [some (.ref 0), some (.ref 46), some (.int x5), some (.int x9), some (.int x10), none, none], [.int (0 : Int32)], M8)) rfl ?_
            exact pm_irZ (Or.inl rfl) rfl rfl
        · refine pm_irun 8 (σ' := (72, [some (.ref 0), some (.ref 46), some (.int x5), some (.int x9), some (.int x10), none, none], [.int x10, .int (x5 * (M8.1 1 0)), .ref 47], M8)) rfl ?_
          refine pm_irun 1 (σ' := (73, [some (.ref 0), some (.ref 46), some (.int x5), some (.int x9), some (.int x10), none, none], [.int ((x5 * (M8.1 1 0)) + x10), .ref 47], M8)) rfl ?_
          refine pm_igd (σ1 := (74, [some (.ref 0), some (.ref 46), some (.int x5), some (.int x9), some (.int x10), none, none], [.long (M8.2 47 ((x5 * (M8.1 1 0)) + x10).toNatClampNeg)], M8)) rfl (fun _ => ?_)
          refine pm_irun 1 (σ' := (76, [some (.ref 0), some (.ref 46), some (.int x5), some (.int x9), some (.int x10), some (.long (M8.2 47 ((x5 * (M8.1 1 0)) + x10).toNatClampNeg)), none], [], M8)) rfl ?_
          refine pm_ilt (fun y => (76, [some (.ref 0), some (.ref 46), some (.int x5), some (.int x9), some (.int x10), some (.long y), none], [], M8)) (fun x12 => ?_)
          refine pm_irun 3 (σ' := (80, [some (.ref 0), some (.ref 46), some (.int x5), some (.int x9), some (.int x10), some (.long x12), none], [.int (lg_cmp x12 (0 : Int64))], M8)) rfl ?_
          refine pm_iite (σ1 := (91, [some (.ref 0), some (.ref 46), some (.int x5), some (.int x9), some (.int x10), some (.long x12), none], [], M8)) (σ2 := (83, [some (.ref 0), some (.ref 46), some (.int x5), some (.int x9), some (.int x10), some (.long x12), none], [], M8)) rfl (fun _ => ?_) (fun _ => ?_)
          · refine pm_irun 1 (σ' := (92, [some (.ref 0), some (.ref 46), some (.int x5), some (.int x9), some (.int x10), some (.long x12), none], [.int (0 : Int32)], M8)) rfl ?_
            exact pm_irZ (Or.inl rfl) rfl rfl
          · refine pm_irun 4 (σ' := (88, [some (.ref 0), some (.ref 46), some (.int x5), some (.int x9), some (.int x10), some (.long x12), none], [.int (lg_cmp x12 x9.toInt64)], M8)) rfl ?_
            refine pm_iite (σ1 := (93, [some (.ref 0), some (.ref 46), some (.int x5), some (.int x9), some (.int x10), some (.long x12), none], [], M8)) (σ2 := (91, [some (.ref 0), some (.ref 46), some (.int x5), some (.int x9), some (.int x10), some (.long x12), none], [], M8)) rfl (fun _ => ?_) (fun _ => ?_)
            · refine pm_irun 3 (σ' := (97, [some (.ref 0), some (.ref 46), some (.int x5), some (.int x9), some (.int x10), some (.long x12), none], [.int (lg_cmp x12 (0 : Int64))], M8)) rfl ?_
              refine pm_ijn (fun (g : pm_M → Option (Int32 × pm_M)) => ∀ (M14 : pm_M), I_C_readState_0_46 (g M14) (117, [some (.ref 0), some (.ref 46), some (.int x5), some (.int x9), some (.int x10), some (.long x12), none], [], M14)) (fun (M14 : pm_M) => ?_) (fun j13 hj13 => ?_)
              · show I_C_readState_0_46 _ (117, [some (.ref 0), some (.ref 46), some (.int x5), some (.int x9), some (.int x10), some (.long x12), none], [], M14)
                refine pm_irun 8 (σ' := (129, [some (.ref 0), some (.ref 46), some (.int x5), some (.int x9), some (.int x10), some (.long x12), none], [.long x12, .int ((x5 * (5 : Int32)) + x10), .ref 48], M14)) rfl ?_
                refine pm_irun 1 (σ' := (130, [some (.ref 0), some (.ref 46), some (.int x5), some (.int x9), some (.int x10), some (.long x12), none], [.int x12.toInt32, .int ((x5 * (5 : Int32)) + x10), .ref 48], M14)) rfl ?_
                refine pm_igd (σ1 := (131, [some (.ref 0), some (.ref 46), some (.int x5), some (.int x9), some (.int x10), some (.long x12), none], [], (pm_sI M14 48 ((x5 * (5 : Int32)) + x10).toNatClampNeg (x12.toInt32)))) rfl (fun _ => ?_)
                refine pm_ilt (fun y => (131, [some (.ref 0), some (.ref 46), some (.int x5), some (.int x9), some (.int x10), some (.long x12), none], [], y)) (fun M15 => ?_)
                refine pm_irun 5 (σ' := (137, [some (.ref 0), some (.ref 46), some (.int x5), some (.int (x9 - x12.toInt32)), some (.int x10), some (.long x12), none], [], M15)) rfl ?_
                refine pm_ilt (fun y => (137, [some (.ref 0), some (.ref 46), some (.int x5), some (.int y), some (.int x10), some (.long x12), none], [], M15)) (fun x16 => ?_)
                refine pm_irun 1 (σ' := (140, [some (.ref 0), some (.ref 46), some (.int x5), some (.int x16), some (.int (x10 + (1 : Int32))), some (.long x12), none], [], M15)) rfl ?_
                refine pm_ilt (fun y => (140, [some (.ref 0), some (.ref 46), some (.int x5), some (.int x16), some (.int y), some (.long x12), none], [], M15)) (fun x17 => ?_)
                refine pm_irun 1 (σ' := (45, [some (.ref 0), some (.ref 46), some (.int x5), some (.int x16), some (.int x17), some (.long x12), none], [], M15)) rfl ?_
                refine pm_iwk (al' := [some (.ref 0), some (.ref 46), some (.int x5), some (.int x16), some (.int x17), none, none]) (pm_wkS (pm_wkS (pm_wkS (pm_wkS (pm_wkS (pm_wkN (pm_wkS pm_wk0))))))) ?_
                exact hg7 _ _ _
              refine pm_iite (σ1 := (117, [some (.ref 0), some (.ref 46), some (.int x5), some (.int x9), some (.int x10), some (.long x12), none], [], M8)) (σ2 := (100, [some (.ref 0), some (.ref 46), some (.int x5), some (.int x9), some (.int x10), some (.long x12), none], [], M8)) rfl (fun _ => ?_) (fun _ => ?_)
              · exact hj13 _
              · refine pm_irun 4 (σ' := (107, [some (.ref 0), some (.ref 46), some (.int x5), some (.int x9), some (.int x10), some (.long x12), none], [.int x10, .int x5, .ref 15], M8)) rfl ?_
                refine pm_icL (as := [.ref 15, .int x5, .int x10]) (rest := []) rfl rfl rfl rfl (Nat.le_of_ble_eq_true rfl) rfl (fun r h => pm_Ev_mono (Nat.le_of_ble_eq_true rfl) (sTours_visitsOf_ok x5 x10 M8 r h)) (fun v19 M18 => ?_)
                show pm_Im _ _ _ _ _ _ (110, [some (.ref 0), some (.ref 46), some (.int x5), some (.int x9), some (.int x10), some (.long x12), none], [.long v19], M18)
                refine pm_irun 2 (σ' := (112, [some (.ref 0), some (.ref 46), some (.int x5), some (.int x9), some (.int x10), some (.long x12), none], [.int (lg_cmp v19 (0 : Int64))], M18)) rfl ?_
                refine pm_iite (σ1 := (117, [some (.ref 0), some (.ref 46), some (.int x5), some (.int x9), some (.int x10), some (.long x12), none], [], M18)) (σ2 := (115, [some (.ref 0), some (.ref 46), some (.int x5), some (.int x9), some (.int x10), some (.long x12), none], [], M18)) rfl (fun _ => ?_) (fun _ => ?_)
                · exact hj13 _
                · refine pm_irun 1 (σ' := (116, [some (.ref 0), some (.ref 46), some (.int x5), some (.int x9), some (.int x10), some (.long x12), none], [.int (0 : Int32)], M18)) rfl ?_
                  exact pm_irZ (Or.inl rfl) rfl rfl
            · refine pm_irun 1 (σ' := (92, [some (.ref 0), some (.ref 46), some (.int x5), some (.int x9), some (.int x10), some (.long x12), none], [.int (0 : Int32)], M8)) rfl ?_
              exact pm_irZ (Or.inl rfl) rfl rfl
    · refine pm_irun 1 (σ' := (24, [some (.ref 0), some (.ref 46), none, none, none, none, none], [.int (0 : Int32)], M1)) rfl ?_
      exact pm_irZ (Or.inl rfl) rfl rfl
def sC_odds (a1 : Int32) (a2 : Int32) (M : pm_M) : Option (Int64 × pm_M) := pm_bd (sC_isSheet a1 M) fun v2 M1 => if v2 = 0 then (some ((-4611686018427387904 : Int64), M1)) else (pm_bd (sC_isLine a2 M1) fun v4 M3 => if v4 = 0 then (some ((-4611686018427387904 : Int64), M3)) else (pm_bd (sTours_isSound M3) fun v6 M5 => if ¬ v6 = 0 then (if a1 = 0 then (pm_bd (sC_readState_0_40 M5) fun v8 M7 => if ¬ v8 = 0 then (pm_bd (sStates_weightOf_23_48 M7) fun v10 M9 => pm_bd (sStates_constantOf (M9.1 5 0) (M9.1 5 1) (M9.1 1 0) M9) fun v12 M11 => pm_bd (sC_fraction v10 v12 a2 M11) fun v14 M13 => some (v14, M13)) else (some ((-4611686018427387904 : Int64), M7))) else if a1 = 1 then (pm_bd (sC_readState_0_42 M5) fun v16 M15 => if ¬ v16 = 0 then (pm_bd (sStates_weightOf_23_48 M15) fun v18 M17 => pm_bd (sStates_constantOf (M17.1 5 0) (M17.1 5 1) (M17.1 1 0) M17) fun v20 M19 => pm_bd (sC_fraction v18 v20 a2 M19) fun v22 M21 => some (v22, M21)) else (some ((-4611686018427387904 : Int64), M15))) else if a1 = 2 then (pm_bd (sC_readState_0_44 M5) fun v24 M23 => if ¬ v24 = 0 then (pm_bd (sStates_weightOf_23_48 M23) fun v26 M25 => pm_bd (sStates_constantOf (M25.1 5 0) (M25.1 5 1) (M25.1 1 0) M25) fun v28 M27 => pm_bd (sC_fraction v26 v28 a2 M27) fun v30 M29 => some (v30, M29)) else (some ((-4611686018427387904 : Int64), M23))) else if a1 = 3 then (pm_bd (sC_readState_0_46 M5) fun v32 M31 => if ¬ v32 = 0 then (pm_bd (sStates_weightOf_23_48 M31) fun v34 M33 => pm_bd (sStates_constantOf (M33.1 5 0) (M33.1 5 1) (M33.1 1 0) M33) fun v36 M35 => pm_bd (sC_fraction v34 v36 a2 M35) fun v38 M37 => some (v38, M37)) else (some ((-4611686018427387904 : Int64), M31))) else none) else (some ((-4611686018427387904 : Int64), M5))))
abbrev I_C_odds (sh : Option (Int64 × pm_M)) (σ : pm_St) : Prop := pm_Im none (pm_Ev 5) pm_T72 (some .long) pm_rL sh σ
set_option maxHeartbeats 4000000 in
set_option maxRecDepth 100000 in
theorem sC_odds_ok (a1 : Int32) (a2 : Int32) (M : pm_M) : ∀ r, sC_odds a1 a2 M = some r → pm_Ev 6 72 [.ref 0, .int a1, .int a2] M (pm_rL r).1 (pm_rL r).2 := by
  refine pm_meth (al := [some (.ref 0), some (.int a1), some (.int a2), none, none]) rfl rfl rfl rfl rfl ?_
  unfold sC_odds
  show I_C_odds _ (0, [some (.ref 0), some (.int a1), some (.int a2), none, none], [], M)
  refine pm_irun 1 (σ' := (1, [some (.ref 0), some (.int a1), some (.int a2), none, none], [.int a1], M)) rfl ?_
  refine pm_icI (as := [.int a1]) (rest := []) rfl rfl rfl rfl (Nat.le_of_ble_eq_true rfl) rfl (fun r h => pm_Ev_mono (Nat.le_of_ble_eq_true rfl) (sC_isSheet_ok a1 M r h)) (fun v2 M1 => ?_)
  show pm_Im _ _ _ _ _ _ (4, [some (.ref 0), some (.int a1), some (.int a2), none, none], [.int v2], M1)
  refine pm_iite (σ1 := (24, [some (.ref 0), some (.int a1), some (.int a2), none, none], [], M1)) (σ2 := (7, [some (.ref 0), some (.int a1), some (.int a2), none, none], [], M1)) rfl (fun _ => ?_) (fun _ => ?_)
  · refine pm_irun 1 (σ' := (27, [some (.ref 0), some (.int a1), some (.int a2), none, none], [.long (-4611686018427387904 : Int64)], M1)) rfl ?_
    exact pm_irL rfl rfl
  · refine pm_irun 1 (σ' := (8, [some (.ref 0), some (.int a1), some (.int a2), none, none], [.int a2], M1)) rfl ?_
    refine pm_icI (as := [.int a2]) (rest := []) rfl rfl rfl rfl (Nat.le_of_ble_eq_true rfl) rfl (fun r h => pm_Ev_mono (Nat.le_of_ble_eq_true rfl) (sC_isLine_ok a2 M1 r h)) (fun v4 M3 => ?_)
    show pm_Im _ _ _ _ _ _ (11, [some (.ref 0), some (.int a1), some (.int a2), none, none], [.int v4], M3)
    refine pm_iite (σ1 := (24, [some (.ref 0), some (.int a1), some (.int a2), none, none], [], M3)) (σ2 := (14, [some (.ref 0), some (.int a1), some (.int a2), none, none], [], M3)) rfl (fun _ => ?_) (fun _ => ?_)
    · refine pm_irun 1 (σ' := (27, [some (.ref 0), some (.int a1), some (.int a2), none, none], [.long (-4611686018427387904 : Int64)], M3)) rfl ?_
      exact pm_irL rfl rfl
    · refine pm_irun 2 (σ' := (18, [some (.ref 0), some (.int a1), some (.int a2), none, none], [.ref 15], M3)) rfl ?_
      refine pm_icI (as := [.ref 15]) (rest := []) rfl rfl rfl rfl (Nat.le_of_ble_eq_true rfl) rfl (fun r h => pm_Ev_mono (Nat.le_of_ble_eq_true rfl) (sTours_isSound_ok M3 r h)) (fun v6 M5 => ?_)
      show pm_Im _ _ _ _ _ _ (21, [some (.ref 0), some (.int a1), some (.int a2), none, none], [.int v6], M5)
      refine pm_iite (σ1 := (28, [some (.ref 0), some (.int a1), some (.int a2), none, none], [], M5)) (σ2 := (24, [some (.ref 0), some (.int a1), some (.int a2), none, none], [], M5)) rfl (fun _ => ?_) (fun _ => ?_)
      · refine pm_irun 4 (σ' := (34, [some (.ref 0), some (.int a1), some (.int a2), none, none], [.int a1, .ref 39, .ref 0], M5)) rfl ?_
        refine pm_iaal rfl ?_ ?_ ?_ ?_
        · show pm_Im _ _ _ _ _ _ (35, [some (.ref 0), some (.int a1), some (.int a2), none, none], [.ref 40, .ref 0], M5)
          refine pm_icI (as := [.ref 0, .ref 40]) (rest := []) rfl rfl rfl rfl (Nat.le_of_ble_eq_true rfl) rfl (fun r h => pm_Ev_mono (Nat.le_of_ble_eq_true rfl) (sC_readState_0_40_ok M5 r h)) (fun v8 M7 => ?_)
          show pm_Im _ _ _ _ _ _ (38, [some (.ref 0), some (.int a1), some (.int a2), none, none], [.int v8], M7)
          refine pm_iite (σ1 := (45, [some (.ref 0), some (.int a1), some (.int a2), none, none], [], M7)) (σ2 := (41, [some (.ref 0), some (.int a1), some (.int a2), none, none], [], M7)) rfl (fun _ => ?_) (fun _ => ?_)
          · refine pm_irun 4 (σ' := (53, [some (.ref 0), some (.int a1), some (.int a2), none, none], [.ref 48, .ref 23], M7)) rfl ?_
            refine pm_icL (as := [.ref 23, .ref 48]) (rest := []) rfl rfl rfl rfl (Nat.le_of_ble_eq_true rfl) rfl (fun r h => pm_Ev_mono (Nat.le_of_ble_eq_true rfl) (sStates_weightOf_23_48_ok M7 r h)) (fun v10 M9 => ?_)
            show pm_Im _ _ _ _ _ _ (56, [some (.ref 0), some (.int a1), some (.int a2), none, none], [.long v10], M9)
            refine pm_irun 1 (σ' := (57, [some (.ref 0), some (.int a1), some (.int a2), some (.long v10), none], [], M9)) rfl ?_
            refine pm_irun 7 (σ' := (70, [some (.ref 0), some (.int a1), some (.int a2), some (.long v10), none], [.int (0 : Int32), .ref 5, .ref 23, .long v10], M9)) rfl ?_
            refine pm_igt (c := pm_in (0 : Int32) 2) (σ1 := (71, [some (.ref 0), some (.int a1), some (.int a2), some (.long v10), none], [.int (M9.1 5 0), .ref 23, .long v10], M9)) (by decide) rfl ?_
            refine pm_irun 4 (σ' := (79, [some (.ref 0), some (.int a1), some (.int a2), some (.long v10), none], [.int (1 : Int32), .ref 5, .int (M9.1 5 0), .ref 23, .long v10], M9)) rfl ?_
            refine pm_igt (c := pm_in (1 : Int32) 2) (σ1 := (80, [some (.ref 0), some (.int a1), some (.int a2), some (.long v10), none], [.int (M9.1 5 1), .int (M9.1 5 0), .ref 23, .long v10], M9)) (by decide) rfl ?_
            refine pm_irun 3 (σ' := (87, [some (.ref 0), some (.int a1), some (.int a2), some (.long v10), none], [.int (M9.1 1 0), .int (M9.1 5 1), .int (M9.1 5 0), .ref 23, .long v10], M9)) rfl ?_
            refine pm_icL (as := [.ref 23, .int (M9.1 5 0), .int (M9.1 5 1), .int (M9.1 1 0)]) (rest := [.long v10]) rfl rfl rfl rfl (Nat.le_of_ble_eq_true rfl) rfl (fun r h => pm_Ev_mono (Nat.le_of_ble_eq_true rfl) (sStates_constantOf_ok (M9.1 5 0) (M9.1 5 1) (M9.1 1 0) M9 r h)) (fun v12 M11 => ?_)
            show pm_Im _ _ _ _ _ _ (90, [some (.ref 0), some (.int a1), some (.int a2), some (.long v10), none], [.long v12, .long v10], M11)
            refine pm_irun 1 (σ' := (91, [some (.ref 0), some (.int a1), some (.int a2), some (.long v10), none], [.int a2, .long v12, .long v10], M11)) rfl ?_
            refine pm_icL (as := [.long v10, .long v12, .int a2]) (rest := []) rfl rfl rfl rfl (Nat.le_of_ble_eq_true rfl) rfl (fun r h => pm_Ev_mono (Nat.le_of_ble_eq_true rfl) (sC_fraction_ok v10 v12 a2 M11 r h)) (fun v14 M13 => ?_)
            show pm_Im _ _ _ _ _ _ (94, [some (.ref 0), some (.int a1), some (.int a2), some (.long v10), none], [.long v14], M13)
            exact pm_irL rfl rfl
          · refine pm_irun 1 (σ' := (44, [some (.ref 0), some (.int a1), some (.int a2), none, none], [.long (-4611686018427387904 : Int64)], M7)) rfl ?_
            exact pm_irL rfl rfl
        · show pm_Im _ _ _ _ _ _ (35, [some (.ref 0), some (.int a1), some (.int a2), none, none], [.ref 42, .ref 0], M5)
          refine pm_icI (as := [.ref 0, .ref 42]) (rest := []) rfl rfl rfl rfl (Nat.le_of_ble_eq_true rfl) rfl (fun r h => pm_Ev_mono (Nat.le_of_ble_eq_true rfl) (sC_readState_0_42_ok M5 r h)) (fun v16 M15 => ?_)
          show pm_Im _ _ _ _ _ _ (38, [some (.ref 0), some (.int a1), some (.int a2), none, none], [.int v16], M15)
          refine pm_iite (σ1 := (45, [some (.ref 0), some (.int a1), some (.int a2), none, none], [], M15)) (σ2 := (41, [some (.ref 0), some (.int a1), some (.int a2), none, none], [], M15)) rfl (fun _ => ?_) (fun _ => ?_)
          · refine pm_irun 4 (σ' := (53, [some (.ref 0), some (.int a1), some (.int a2), none, none], [.ref 48, .ref 23], M15)) rfl ?_
            refine pm_icL (as := [.ref 23, .ref 48]) (rest := []) rfl rfl rfl rfl (Nat.le_of_ble_eq_true rfl) rfl (fun r h => pm_Ev_mono (Nat.le_of_ble_eq_true rfl) (sStates_weightOf_23_48_ok M15 r h)) (fun v18 M17 => ?_)
            show pm_Im _ _ _ _ _ _ (56, [some (.ref 0), some (.int a1), some (.int a2), none, none], [.long v18], M17)
            refine pm_irun 1 (σ' := (57, [some (.ref 0), some (.int a1), some (.int a2), some (.long v18), none], [], M17)) rfl ?_
            refine pm_irun 7 (σ' := (70, [some (.ref 0), some (.int a1), some (.int a2), some (.long v18), none], [.int (0 : Int32), .ref 5, .ref 23, .long v18], M17)) rfl ?_
            refine pm_igt (c := pm_in (0 : Int32) 2) (σ1 := (71, [some (.ref 0), some (.int a1), some (.int a2), some (.long v18), none], [.int (M17.1 5 0), .ref 23, .long v18], M17)) (by decide) rfl ?_
            refine pm_irun 4 (σ' := (79, [some (.ref 0), some (.int a1), some (.int a2), some (.long v18), none], [.int (1 : Int32), .ref 5, .int (M17.1 5 0), .ref 23, .long v18], M17)) rfl ?_
            refine pm_igt (c := pm_in (1 : Int32) 2) (σ1 := (80, [some (.ref 0), some (.int a1), some (.int a2), some (.long v18), none], [.int (M17.1 5 1), .int (M17.1 5 0), .ref 23, .long v18], M17)) (by decide) rfl ?_
            refine pm_irun 3 (σ' := (87, [some (.ref 0), some (.int a1), some (.int a2), some (.long v18), none], [.int (M17.1 1 0), .int (M17.1 5 1), .int (M17.1 5 0), .ref 23, .long v18], M17)) rfl ?_
            refine pm_icL (as := [.ref 23, .int (M17.1 5 0), .int (M17.1 5 1), .int (M17.1 1 0)]) (rest := [.long v18]) rfl rfl rfl rfl (Nat.le_of_ble_eq_true rfl) rfl (fun r h => pm_Ev_mono (Nat.le_of_ble_eq_true rfl) (sStates_constantOf_ok (M17.1 5 0) (M17.1 5 1) (M17.1 1 0) M17 r h)) (fun v20 M19 => ?_)
            show pm_Im _ _ _ _ _ _ (90, [some (.ref 0), some (.int a1), some (.int a2), some (.long v18), none], [.long v20, .long v18], M19)
            refine pm_irun 1 (σ' := (91, [some (.ref 0), some (.int a1), some (.int a2), some (.long v18), none], [.int a2, .long v20, .long v18], M19)) rfl ?_
            refine pm_icL (as := [.long v18, .long v20, .int a2]) (rest := []) rfl rfl rfl rfl (Nat.le_of_ble_eq_true rfl) rfl (fun r h => pm_Ev_mono (Nat.le_of_ble_eq_true rfl) (sC_fraction_ok v18 v20 a2 M19 r h)) (fun v22 M21 => ?_)
            show pm_Im _ _ _ _ _ _ (94, [some (.ref 0), some (.int a1), some (.int a2), some (.long v18), none], [.long v22], M21)
            exact pm_irL rfl rfl
          · refine pm_irun 1 (σ' := (44, [some (.ref 0), some (.int a1), some (.int a2), none, none], [.long (-4611686018427387904 : Int64)], M15)) rfl ?_
            exact pm_irL rfl rfl
        · show pm_Im _ _ _ _ _ _ (35, [some (.ref 0), some (.int a1), some (.int a2), none, none], [.ref 44, .ref 0], M5)
          refine pm_icI (as := [.ref 0, .ref 44]) (rest := []) rfl rfl rfl rfl (Nat.le_of_ble_eq_true rfl) rfl (fun r h => pm_Ev_mono (Nat.le_of_ble_eq_true rfl) (sC_readState_0_44_ok M5 r h)) (fun v24 M23 => ?_)
          show pm_Im _ _ _ _ _ _ (38, [some (.ref 0), some (.int a1), some (.int a2), none, none], [.int v24], M23)
          refine pm_iite (σ1 := (45, [some (.ref 0), some (.int a1), some (.int a2), none, none], [], M23)) (σ2 := (41, [some (.ref 0), some (.int a1), some (.int a2), none, none], [], M23)) rfl (fun _ => ?_) (fun _ => ?_)
          · refine pm_irun 4 (σ' := (53, [some (.ref 0), some (.int a1), some (.int a2), none, none], [.ref 48, .ref 23], M23)) rfl ?_
            refine pm_icL (as := [.ref 23, .ref 48]) (rest := []) rfl rfl rfl rfl (Nat.le_of_ble_eq_true rfl) rfl (fun r h => pm_Ev_mono (Nat.le_of_ble_eq_true rfl) (sStates_weightOf_23_48_ok M23 r h)) (fun v26 M25 => ?_)
            show pm_Im _ _ _ _ _ _ (56, [some (.ref 0), some (.int a1), some (.int a2), none, none], [.long v26], M25)
            refine pm_irun 1 (σ' := (57, [some (.ref 0), some (.int a1), some (.int a2), some (.long v26), none], [], M25)) rfl ?_
            refine pm_irun 7 (σ' := (70, [some (.ref 0), some (.int a1), some (.int a2), some (.long v26), none], [.int (0 : Int32), .ref 5, .ref 23, .long v26], M25)) rfl ?_
            refine pm_igt (c := pm_in (0 : Int32) 2) (σ1 := (71, [some (.ref 0), some (.int a1), some (.int a2), some (.long v26), none], [.int (M25.1 5 0), .ref 23, .long v26], M25)) (by decide) rfl ?_
            refine pm_irun 4 (σ' := (79, [some (.ref 0), some (.int a1), some (.int a2), some (.long v26), none], [.int (1 : Int32), .ref 5, .int (M25.1 5 0), .ref 23, .long v26], M25)) rfl ?_
            refine pm_igt (c := pm_in (1 : Int32) 2) (σ1 := (80, [some (.ref 0), some (.int a1), some (.int a2), some (.long v26), none], [.int (M25.1 5 1), .int (M25.1 5 0), .ref 23, .long v26], M25)) (by decide) rfl ?_
            refine pm_irun 3 (σ' := (87, [some (.ref 0), some (.int a1), some (.int a2), some (.long v26), none], [.int (M25.1 1 0), .int (M25.1 5 1), .int (M25.1 5 0), .ref 23, .long v26], M25)) rfl ?_
            refine pm_icL (as := [.ref 23, .int (M25.1 5 0), .int (M25.1 5 1), .int (M25.1 1 0)]) (rest := [.long v26]) rfl rfl rfl rfl (Nat.le_of_ble_eq_true rfl) rfl (fun r h => pm_Ev_mono (Nat.le_of_ble_eq_true rfl) (sStates_constantOf_ok (M25.1 5 0) (M25.1 5 1) (M25.1 1 0) M25 r h)) (fun v28 M27 => ?_)
            show pm_Im _ _ _ _ _ _ (90, [some (.ref 0), some (.int a1), some (.int a2), some (.long v26), none], [.long v28, .long v26], M27)
            refine pm_irun 1 (σ' := (91, [some (.ref 0), some (.int a1), some (.int a2), some (.long v26), none], [.int a2, .long v28, .long v26], M27)) rfl ?_
            refine pm_icL (as := [.long v26, .long v28, .int a2]) (rest := []) rfl rfl rfl rfl (Nat.le_of_ble_eq_true rfl) rfl (fun r h => pm_Ev_mono (Nat.le_of_ble_eq_true rfl) (sC_fraction_ok v26 v28 a2 M27 r h)) (fun v30 M29 => ?_)
            show pm_Im _ _ _ _ _ _ (94, [some (.ref 0), some (.int a1), some (.int a2), some (.long v26), none], [.long v30], M29)
            exact pm_irL rfl rfl
          · refine pm_irun 1 (σ' := (44, [some (.ref 0), some (.int a1), some (.int a2), none, none], [.long (-4611686018427387904 : Int64)], M23)) rfl ?_
            exact pm_irL rfl rfl
        · show pm_Im _ _ _ _ _ _ (35, [some (.ref 0), some (.int a1), some (.int a2), none, none], [.ref 46, .ref 0], M5)
          refine pm_icI (as := [.ref 0, .ref 46]) (rest := []) rfl rfl rfl rfl (Nat.le_of_ble_eq_true rfl) rfl (fun r h => pm_Ev_mono (Nat.le_of_ble_eq_true rfl) (sC_readState_0_46_ok M5 r h)) (fun v32 M31 => ?_)
          show pm_Im _ _ _ _ _ _ (38, [some (.ref 0), some (.int a1), some (.int a2), none, none], [.int v32], M31)
          refine pm_iite (σ1 := (45, [some (.ref 0), some (.int a1), some (.int a2), none, none], [], M31)) (σ2 := (41, [some (.ref 0), some (.int a1), some (.int a2), none, none], [], M31)) rfl (fun _ => ?_) (fun _ => ?_)
          · refine pm_irun 4 (σ' := (53, [some (.ref 0), some (.int a1), some (.int a2), none, none], [.ref 48, .ref 23], M31)) rfl ?_
            refine pm_icL (as := [.ref 23, .ref 48]) (rest := []) rfl rfl rfl rfl (Nat.le_of_ble_eq_true rfl) rfl (fun r h => pm_Ev_mono (Nat.le_of_ble_eq_true rfl) (sStates_weightOf_23_48_ok M31 r h)) (fun v34 M33 => ?_)
            show pm_Im _ _ _ _ _ _ (56, [some (.ref 0), some (.int a1), some (.int a2), none, none], [.long v34], M33)
            refine pm_irun 1 (σ' := (57, [some (.ref 0), some (.int a1), some (.int a2), some (.long v34), none], [], M33)) rfl ?_
            refine pm_irun 7 (σ' := (70, [some (.ref 0), some (.int a1), some (.int a2), some (.long v34), none], [.int (0 : Int32), .ref 5, .ref 23, .long v34], M33)) rfl ?_
            refine pm_igt (c := pm_in (0 : Int32) 2) (σ1 := (71, [some (.ref 0), some (.int a1), some (.int a2), some (.long v34), none], [.int (M33.1 5 0), .ref 23, .long v34], M33)) (by decide) rfl ?_
            refine pm_irun 4 (σ' := (79, [some (.ref 0), some (.int a1), some (.int a2), some (.long v34), none], [.int (1 : Int32), .ref 5, .int (M33.1 5 0), .ref 23, .long v34], M33)) rfl ?_
            refine pm_igt (c := pm_in (1 : Int32) 2) (σ1 := (80, [some (.ref 0), some (.int a1), some (.int a2), some (.long v34), none], [.int (M33.1 5 1), .int (M33.1 5 0), .ref 23, .long v34], M33)) (by decide) rfl ?_
            refine pm_irun 3 (σ' := (87, [some (.ref 0), some (.int a1), some (.int a2), some (.long v34), none], [.int (M33.1 1 0), .int (M33.1 5 1), .int (M33.1 5 0), .ref 23, .long v34], M33)) rfl ?_
            refine pm_icL (as := [.ref 23, .int (M33.1 5 0), .int (M33.1 5 1), .int (M33.1 1 0)]) (rest := [.long v34]) rfl rfl rfl rfl (Nat.le_of_ble_eq_true rfl) rfl (fun r h => pm_Ev_mono (Nat.le_of_ble_eq_true rfl) (sStates_constantOf_ok (M33.1 5 0) (M33.1 5 1) (M33.1 1 0) M33 r h)) (fun v36 M35 => ?_)
            show pm_Im _ _ _ _ _ _ (90, [some (.ref 0), some (.int a1), some (.int a2), some (.long v34), none], [.long v36, .long v34], M35)
            refine pm_irun 1 (σ' := (91, [some (.ref 0), some (.int a1), some (.int a2), some (.long v34), none], [.int a2, .long v36, .long v34], M35)) rfl ?_
            refine pm_icL (as := [.long v34, .long v36, .int a2]) (rest := []) rfl rfl rfl rfl (Nat.le_of_ble_eq_true rfl) rfl (fun r h => pm_Ev_mono (Nat.le_of_ble_eq_true rfl) (sC_fraction_ok v34 v36 a2 M35 r h)) (fun v38 M37 => ?_)
            show pm_Im _ _ _ _ _ _ (94, [some (.ref 0), some (.int a1), some (.int a2), some (.long v34), none], [.long v38], M37)
            exact pm_irL rfl rfl
          · refine pm_irun 1 (σ' := (44, [some (.ref 0), some (.int a1), some (.int a2), none, none], [.long (-4611686018427387904 : Int64)], M31)) rfl ?_
            exact pm_irL rfl rfl
      · refine pm_irun 1 (σ' := (27, [some (.ref 0), some (.int a1), some (.int a2), none, none], [.long (-4611686018427387904 : Int64)], M5)) rfl ?_
        exact pm_irL rfl rfl
def sR_isSheet (a1 : Int32) (M : pm_M) : Option (Int32 × pm_M) := pm_bd (sR_in (a1.toInt64) (0 : Int64) (3 : Int64) M) fun v2 M1 => if v2 = 0 ∨ v2 = 1 then some (v2, M1) else none
abbrev I_R_isSheet (sh : Option (Int32 × pm_M)) (σ : pm_St) : Prop := pm_Im none (pm_Ev 1) pm_T199 (some .boolean) pm_rI sh σ
set_option maxHeartbeats 4000000 in
set_option maxRecDepth 100000 in
theorem sR_isSheet_ok (a1 : Int32) (M : pm_M) : ∀ r, sR_isSheet a1 M = some r → pm_Ev 2 199 [.int a1] M (pm_rI r).1 (pm_rI r).2 := by
  refine pm_meth (al := [some (.int a1)]) rfl rfl rfl rfl rfl ?_
  unfold sR_isSheet
  show I_R_isSheet _ (0, [some (.int a1)], [], M)
  refine pm_irun 4 (σ' := (6, [some (.int a1)], [.long (3 : Int64), .long (0 : Int64), .long a1.toInt64], M)) rfl ?_
  refine pm_icI (as := [.long a1.toInt64, .long (0 : Int64), .long (3 : Int64)]) (rest := []) rfl rfl rfl rfl (Nat.le_of_ble_eq_true rfl) rfl (fun r h => pm_Ev_mono (Nat.le_of_ble_eq_true rfl) (sR_in_ok (a1.toInt64) (0 : Int64) (3 : Int64) M r h)) (fun v2 M1 => ?_)
  show pm_Im _ _ _ _ _ _ (9, [some (.int a1)], [.int v2], M1)
  exact pm_irZg rfl rfl
def sR_readsState (a1 : Int32) (M : pm_M) : Option (Int32 × pm_M) := if pm_in a1 4 then (if (M.1 79 a1.toNatClampNeg) = ((2 : Int32) * (M.1 49 1)) then (pm_loop (fun _ _ => none) (fun (g1 : Int32 → pm_M → Option (Int32 × pm_M)) x3 M2 => if (2 : Int32) ≤ x3 then (some ((1 : Int32), M2)) else (if pm_in x3 2 then (pm_lt ((M2.1 53 x3.toNatClampNeg)) fun x4 => pm_loop (fun _ _ _ => none) (fun (g5 : Int32 → Int32 → pm_M → Option (Int32 × pm_M)) x7 x8 M6 => if (M6.1 49 1) ≤ x8 then (if x7 ≤ 0 then (pm_lt ((x3 + (1 : Int32))) fun x9 => g1 x9 M6) else (some ((0 : Int32), M6))) else (if pm_in ((((40 : Int32) * a1) + ((M6.1 49 1) * x3)) + x8) 160 then (pm_lt ((M6.2 80 ((((40 : Int32) * a1) + ((M6.1 49 1) * x3)) + x8).toNatClampNeg)) fun x10 => pm_bd (sR_in x10 (0 : Int64) (x7.toInt64) M6) fun v12 M11 => if v12 = 0 then (some ((0 : Int32), M11)) else (pm_jn (fun (M14 : pm_M) => if pm_in (((5 : Int32) * x3) + x8) 10 then (pm_lt (pm_sI M14 64 (((5 : Int32) * x3) + x8).toNatClampNeg (x10.toInt32)) fun M15 => pm_lt ((x7 - x10.toInt32)) fun x16 => pm_lt ((x8 + (1 : Int32))) fun x17 => g5 x16 x17 M15) else none) fun (j13 : pm_M → Option (Int32 × pm_M)) => if (lg_cmp x10 (0 : Int64)) ≤ 0 then (j13 M11) else (if pm_in (((5 : Int32) * x3) + x8) 10 then (if ¬ (lg_cmp (M11.2 60 (((5 : Int32) * x3) + x8).toNatClampNeg) (0 : Int64)) = 0 then (j13 M11) else (some ((0 : Int32), M11))) else none))) else none)) 1000000 x4 (0 : Int32) M2) else none)) 1000000 (0 : Int32) M) else (some ((0 : Int32), M))) else none
abbrev I_R_readsState (sh : Option (Int32 × pm_M)) (σ : pm_St) : Prop := pm_Im none (pm_Ev 1) pm_T159 (some .boolean) pm_rI sh σ
set_option maxHeartbeats 4000000 in
set_option maxRecDepth 100000 in
theorem sR_readsState_ok (a1 : Int32) (M : pm_M) : ∀ r, sR_readsState a1 M = some r → pm_Ev 2 159 [.ref 49, .int a1] M (pm_rI r).1 (pm_rI r).2 := by
  refine pm_meth (al := [some (.ref 49), some (.int a1), none, none, none, none, none]) rfl rfl rfl rfl rfl ?_
  unfold sR_readsState
  show I_R_readsState _ (0, [some (.ref 49), some (.int a1), none, none, none, none, none], [], M)
  refine pm_irun 3 (σ' := (5, [some (.ref 49), some (.int a1), none, none, none, none, none], [.int a1, .ref 79], M)) rfl ?_
  refine pm_igd (σ1 := (6, [some (.ref 49), some (.int a1), none, none, none, none, none], [.int (M.1 79 a1.toNatClampNeg)], M)) rfl (fun _ => ?_)
  refine pm_irun 4 (σ' := (12, [some (.ref 49), some (.int a1), none, none, none, none, none], [.int ((2 : Int32) * (M.1 49 1)), .int (M.1 79 a1.toNatClampNeg)], M)) rfl ?_
  refine pm_iite (σ1 := (17, [some (.ref 49), some (.int a1), none, none, none, none, none], [], M)) (σ2 := (15, [some (.ref 49), some (.int a1), none, none, none, none, none], [], M)) rfl (fun _ => ?_) (fun _ => ?_)
  · refine pm_irun 2 (σ' := (19, [some (.ref 49), some (.int a1), some (.int (0 : Int32)), none, none, none, none], [], M)) rfl ?_
    refine pm_iloop (fun (g : Int32 → pm_M → Option (Int32 × pm_M)) => ∀ (x3 : Int32) (M2 : pm_M), I_R_readsState (g x3 M2) (19, [some (.ref 49), some (.int a1), some (.int x3), none, none, none, none], [], M2)) (fun _ _ => pm_inone) (fun g1 hg1 x3 M2 => ?_) 1000000 _ _
    show I_R_readsState _ (19, [some (.ref 49), some (.int a1), some (.int x3), none, none, none, none], [], M2)
    refine pm_irun 2 (σ' := (21, [some (.ref 49), some (.int a1), some (.int x3), none, none, none, none], [.int (2 : Int32), .int x3], M2)) rfl ?_
    refine pm_iite (σ1 := (138, [some (.ref 49), some (.int a1), some (.int x3), none, none, none, none], [], M2)) (σ2 := (24, [some (.ref 49), some (.int a1), some (.int x3), none, none, none, none], [], M2)) rfl (fun _ => ?_) (fun _ => ?_)
    · refine pm_irun 1 (σ' := (139, [some (.ref 49), some (.int a1), some (.int x3), none, none, none, none], [.int (1 : Int32)], M2)) rfl ?_
      exact pm_irZ (Or.inr rfl) rfl rfl
    · refine pm_irun 3 (σ' := (29, [some (.ref 49), some (.int a1), some (.int x3), none, none, none, none], [.int x3, .ref 53], M2)) rfl ?_
      refine pm_igd (σ1 := (30, [some (.ref 49), some (.int a1), some (.int x3), none, none, none, none], [.int (M2.1 53 x3.toNatClampNeg)], M2)) rfl (fun _ => ?_)
      refine pm_irun 1 (σ' := (31, [some (.ref 49), some (.int a1), some (.int x3), some (.int (M2.1 53 x3.toNatClampNeg)), none, none, none], [], M2)) rfl ?_
      refine pm_ilt (fun y => (31, [some (.ref 49), some (.int a1), some (.int x3), some (.int y), none, none, none], [], M2)) (fun x4 => ?_)
      refine pm_irun 2 (σ' := (34, [some (.ref 49), some (.int a1), some (.int x3), some (.int x4), some (.int (0 : Int32)), none, none], [], M2)) rfl ?_
      refine pm_iloop (fun (g : Int32 → Int32 → pm_M → Option (Int32 × pm_M)) => ∀ (x7 : Int32) (x8 : Int32) (M6 : pm_M), I_R_readsState (g x7 x8 M6) (34, [some (.ref 49), some (.int a1), some (.int x3), some (.int x7), some (.int x8), none, none], [], M6)) (fun _ _ _ => pm_inone) (fun g5 hg5 x7 x8 M6 => ?_) 1000000 _ _ _
      show I_R_readsState _ (34, [some (.ref 49), some (.int a1), some (.int x3), some (.int x7), some (.int x8), none, none], [], M6)
      refine pm_irun 3 (σ' := (40, [some (.ref 49), some (.int a1), some (.int x3), some (.int x7), some (.int x8), none, none], [.int (M6.1 49 1), .int x8], M6)) rfl ?_
      refine pm_iite (σ1 := (126, [some (.ref 49), some (.int a1), some (.int x3), some (.int x7), some (.int x8), none, none], [], M6)) (σ2 := (43, [some (.ref 49), some (.int a1), some (.int x3), some (.int x7), some (.int x8), none, none], [], M6)) rfl (fun _ => ?_) (fun _ => ?_)
      · refine pm_irun 1 (σ' := (127, [some (.ref 49), some (.int a1), some (.int x3), some (.int x7), some (.int x8), none, none], [.int x7], M6)) rfl ?_
        refine pm_iite (σ1 := (132, [some (.ref 49), some (.int a1), some (.int x3), some (.int x7), some (.int x8), none, none], [], M6)) (σ2 := (130, [some (.ref 49), some (.int a1), some (.int x3), some (.int x7), some (.int x8), none, none], [], M6)) rfl (fun _ => ?_) (fun _ => ?_)
        · refine pm_irun 1 (σ' := (135, [some (.ref 49), some (.int a1), some (.int (x3 + (1 : Int32))), some (.int x7), some (.int x8), none, none], [], M6)) rfl ?_
          refine pm_ilt (fun y => (135, [some (.ref 49), some (.int a1), some (.int y), some (.int x7), some (.int x8), none, none], [], M6)) (fun x9 => ?_)
          refine pm_irun 1 (σ' := (19, [some (.ref 49), some (.int a1), some (.int x9), some (.int x7), some (.int x8), none, none], [], M6)) rfl ?_
          refine pm_iwk (al' := [some (.ref 49), some (.int a1), some (.int x9), none, none, none, none]) (pm_wkS (pm_wkS (pm_wkS (pm_wkN (pm_wkN (pm_wkS (pm_wkS pm_wk0))))))) ?_
          exact hg1 _ _
        · refine pm_irun 1 (σ' := (131, [some (.ref 49), some (.int a1), some (.int x3), some (.int x7), some (.int x8), none, none], [.int (0 : Int32)], M6)) rfl ?_
          exact pm_irZ (Or.inl rfl) rfl rfl
      · refine pm_irun 8 (σ' := (56, [some (.ref 49), some (.int a1), some (.int x3), some (.int x7), some (.int x8), none, none], [.int x3, .int (M6.1 49 1), .int ((40 : Int32) * a1), .ref 80], M6)) rfl ?_
        refine pm_irun 4 (σ' := (61, [some (.ref 49), some (.int a1), some (.int x3), some (.int x7), some (.int x8), none, none], [.int ((((40 : Int32) * a1) + ((M6.1 49 1) * x3)) + x8), .ref 80], M6)) rfl ?_
        refine pm_igd (σ1 := (62, [some (.ref 49), some (.int a1), some (.int x3), some (.int x7), some (.int x8), none, none], [.long (M6.2 80 ((((40 : Int32) * a1) + ((M6.1 49 1) * x3)) + x8).toNatClampNeg)], M6)) rfl (fun _ => ?_)
        refine pm_irun 1 (σ' := (64, [some (.ref 49), some (.int a1), some (.int x3), some (.int x7), some (.int x8), some (.long (M6.2 80 ((((40 : Int32) * a1) + ((M6.1 49 1) * x3)) + x8).toNatClampNeg)), none], [], M6)) rfl ?_
        refine pm_ilt (fun y => (64, [some (.ref 49), some (.int a1), some (.int x3), some (.int x7), some (.int x8), some (.long y), none], [], M6)) (fun x10 => ?_)
        refine pm_irun 4 (σ' := (69, [some (.ref 49), some (.int a1), some (.int x3), some (.int x7), some (.int x8), some (.long x10), none], [.long x7.toInt64, .long (0 : Int64), .long x10], M6)) rfl ?_
        refine pm_icI (as := [.long x10, .long (0 : Int64), .long x7.toInt64]) (rest := []) rfl rfl rfl rfl (Nat.le_of_ble_eq_true rfl) rfl (fun r h => pm_Ev_mono (Nat.le_of_ble_eq_true rfl) (sR_in_ok x10 (0 : Int64) (x7.toInt64) M6 r h)) (fun v12 M11 => ?_)
        show pm_Im _ _ _ _ _ _ (72, [some (.ref 49), some (.int a1), some (.int x3), some (.int x7), some (.int x8), some (.long x10), none], [.int v12], M11)
        refine pm_iite (σ1 := (98, [some (.ref 49), some (.int a1), some (.int x3), some (.int x7), some (.int x8), some (.long x10), none], [], M11)) (σ2 := (75, [some (.ref 49), some (.int a1), some (.int x3), some (.int x7), some (.int x8), some (.long x10), none], [], M11)) rfl (fun _ => ?_) (fun _ => ?_)
        · refine pm_irun 1 (σ' := (99, [some (.ref 49), some (.int a1), some (.int x3), some (.int x7), some (.int x8), some (.long x10), none], [.int (0 : Int32)], M11)) rfl ?_
          exact pm_irZ (Or.inl rfl) rfl rfl
        · refine pm_irun 3 (σ' := (79, [some (.ref 49), some (.int a1), some (.int x3), some (.int x7), some (.int x8), some (.long x10), none], [.int (lg_cmp x10 (0 : Int64))], M11)) rfl ?_
          refine pm_ijn (fun (g : pm_M → Option (Int32 × pm_M)) => ∀ (M14 : pm_M), I_R_readsState (g M14) (100, [some (.ref 49), some (.int a1), some (.int x3), some (.int x7), some (.int x8), some (.long x10), none], [], M14)) (fun (M14 : pm_M) => ?_) (fun j13 hj13 => ?_)
          · show I_R_readsState _ (100, [some (.ref 49), some (.int a1), some (.int x3), some (.int x7), some (.int x8), some (.long x10), none], [], M14)
            refine pm_irun 8 (σ' := (112, [some (.ref 49), some (.int a1), some (.int x3), some (.int x7), some (.int x8), some (.long x10), none], [.long x10, .int (((5 : Int32) * x3) + x8), .ref 64], M14)) rfl ?_
            refine pm_irun 1 (σ' := (113, [some (.ref 49), some (.int a1), some (.int x3), some (.int x7), some (.int x8), some (.long x10), none], [.int x10.toInt32, .int (((5 : Int32) * x3) + x8), .ref 64], M14)) rfl ?_
            refine pm_igd (σ1 := (114, [some (.ref 49), some (.int a1), some (.int x3), some (.int x7), some (.int x8), some (.long x10), none], [], (pm_sI M14 64 (((5 : Int32) * x3) + x8).toNatClampNeg (x10.toInt32)))) rfl (fun _ => ?_)
            refine pm_ilt (fun y => (114, [some (.ref 49), some (.int a1), some (.int x3), some (.int x7), some (.int x8), some (.long x10), none], [], y)) (fun M15 => ?_)
            refine pm_irun 5 (σ' := (120, [some (.ref 49), some (.int a1), some (.int x3), some (.int (x7 - x10.toInt32)), some (.int x8), some (.long x10), none], [], M15)) rfl ?_
            refine pm_ilt (fun y => (120, [some (.ref 49), some (.int a1), some (.int x3), some (.int y), some (.int x8), some (.long x10), none], [], M15)) (fun x16 => ?_)
            refine pm_irun 1 (σ' := (123, [some (.ref 49), some (.int a1), some (.int x3), some (.int x16), some (.int (x8 + (1 : Int32))), some (.long x10), none], [], M15)) rfl ?_
            refine pm_ilt (fun y => (123, [some (.ref 49), some (.int a1), some (.int x3), some (.int x16), some (.int y), some (.long x10), none], [], M15)) (fun x17 => ?_)
            refine pm_irun 1 (σ' := (34, [some (.ref 49), some (.int a1), some (.int x3), some (.int x16), some (.int x17), some (.long x10), none], [], M15)) rfl ?_
            refine pm_iwk (al' := [some (.ref 49), some (.int a1), some (.int x3), some (.int x16), some (.int x17), none, none]) (pm_wkS (pm_wkS (pm_wkS (pm_wkS (pm_wkS (pm_wkN (pm_wkS pm_wk0))))))) ?_
            exact hg5 _ _ _
          refine pm_iite (σ1 := (100, [some (.ref 49), some (.int a1), some (.int x3), some (.int x7), some (.int x8), some (.long x10), none], [], M11)) (σ2 := (82, [some (.ref 49), some (.int a1), some (.int x3), some (.int x7), some (.int x8), some (.long x10), none], [], M11)) rfl (fun _ => ?_) (fun _ => ?_)
          · exact hj13 _
          · refine pm_irun 7 (σ' := (92, [some (.ref 49), some (.int a1), some (.int x3), some (.int x7), some (.int x8), some (.long x10), none], [.int (((5 : Int32) * x3) + x8), .ref 60], M11)) rfl ?_
            refine pm_igd (σ1 := (93, [some (.ref 49), some (.int a1), some (.int x3), some (.int x7), some (.int x8), some (.long x10), none], [.long (M11.2 60 (((5 : Int32) * x3) + x8).toNatClampNeg)], M11)) rfl (fun _ => ?_)
            refine pm_irun 2 (σ' := (95, [some (.ref 49), some (.int a1), some (.int x3), some (.int x7), some (.int x8), some (.long x10), none], [.int (lg_cmp (M11.2 60 (((5 : Int32) * x3) + x8).toNatClampNeg) (0 : Int64))], M11)) rfl ?_
            refine pm_iite (σ1 := (100, [some (.ref 49), some (.int a1), some (.int x3), some (.int x7), some (.int x8), some (.long x10), none], [], M11)) (σ2 := (98, [some (.ref 49), some (.int a1), some (.int x3), some (.int x7), some (.int x8), some (.long x10), none], [], M11)) rfl (fun _ => ?_) (fun _ => ?_)
            · exact hj13 _
            · refine pm_irun 1 (σ' := (99, [some (.ref 49), some (.int a1), some (.int x3), some (.int x7), some (.int x8), some (.long x10), none], [.int (0 : Int32)], M11)) rfl ?_
              exact pm_irZ (Or.inl rfl) rfl rfl
  · refine pm_irun 1 (σ' := (16, [some (.ref 49), some (.int a1), none, none, none, none, none], [.int (0 : Int32)], M)) rfl ?_
    exact pm_irZ (Or.inl rfl) rfl rfl
def sR_weight  (M : pm_M) : Option (Int64 × pm_M) := if pm_in (M.1 53 0) 9 then (if pm_in (M.1 53 1) 9 then (pm_lt (((M.2 61 (M.1 53 0).toNatClampNeg) * (M.2 61 (M.1 53 1).toNatClampNeg))) fun x1 => pm_loop (fun _ _ _ => none) (fun (g2 : Int64 → Int32 → pm_M → Option (Int64 × pm_M)) x4 x5 M3 => if (M3.1 49 1) ≤ x5 then (pm_loop (fun _ _ _ => none) (fun (g6 : Int64 → Int32 → pm_M → Option (Int64 × pm_M)) x8 x9 M7 => if (M7.1 49 1) ≤ x9 then (some (x8, M7)) else (if pm_in x9 10 then (if pm_in ((5 : Int32) + x9) 10 then (pm_bd (sR_heap x9 (M7.1 64 x9.toNatClampNeg) (M7.1 64 ((5 : Int32) + x9).toNatClampNeg) M7) fun v11 M10 => pm_lt ((x8 * v11)) fun x12 => pm_lt ((x9 + (1 : Int32))) fun x13 => g6 x12 x13 M10) else none) else none)) 1000000 x4 (0 : Int32) M3) else (if pm_in x5 10 then (if pm_in (M3.1 64 x5.toNatClampNeg) 9 then (if pm_in ((5 : Int32) + x5) 10 then (if pm_in (M3.1 64 ((5 : Int32) + x5).toNatClampNeg) 9 then (if ¬ ((M3.2 61 (M3.1 64 x5.toNatClampNeg).toNatClampNeg) * (M3.2 61 (M3.1 64 ((5 : Int32) + x5).toNatClampNeg).toNatClampNeg)) = 0 then (pm_lt ((x4 / ((M3.2 61 (M3.1 64 x5.toNatClampNeg).toNatClampNeg) * (M3.2 61 (M3.1 64 ((5 : Int32) + x5).toNatClampNeg).toNatClampNeg)))) fun x14 => pm_lt ((x5 + (1 : Int32))) fun x15 => g2 x14 x15 M3) else none) else none) else none) else none) else none)) 1000000 x1 (0 : Int32) M) else none) else none
abbrev I_R_weight (sh : Option (Int64 × pm_M)) (σ : pm_St) : Prop := pm_Im none (pm_Ev 2) pm_T158 (some .long) pm_rL sh σ
set_option maxHeartbeats 4000000 in
set_option maxRecDepth 100000 in
theorem sR_weight_ok  (M : pm_M) : ∀ r, sR_weight  M = some r → pm_Ev 3 158 [.ref 49] M (pm_rL r).1 (pm_rL r).2 := by
  refine pm_meth (al := [some (.ref 49), none, none, none]) rfl rfl rfl rfl rfl ?_
  unfold sR_weight
  show I_R_weight _ (0, [some (.ref 49), none, none, none], [], M)
  refine pm_irun 5 (σ' := (9, [some (.ref 49), none, none, none], [.int (0 : Int32), .ref 53, .ref 61], M)) rfl ?_
  refine pm_igt (c := pm_in (0 : Int32) 2) (σ1 := (10, [some (.ref 49), none, none, none], [.int (M.1 53 0), .ref 61], M)) (by decide) rfl ?_
  refine pm_igd (σ1 := (11, [some (.ref 49), none, none, none], [.long (M.2 61 (M.1 53 0).toNatClampNeg)], M)) rfl (fun _ => ?_)
  refine pm_irun 5 (σ' := (20, [some (.ref 49), none, none, none], [.int (1 : Int32), .ref 53, .ref 61, .long (M.2 61 (M.1 53 0).toNatClampNeg)], M)) rfl ?_
  refine pm_igt (c := pm_in (1 : Int32) 2) (σ1 := (21, [some (.ref 49), none, none, none], [.int (M.1 53 1), .ref 61, .long (M.2 61 (M.1 53 0).toNatClampNeg)], M)) (by decide) rfl ?_
  refine pm_igd (σ1 := (22, [some (.ref 49), none, none, none], [.long (M.2 61 (M.1 53 1).toNatClampNeg), .long (M.2 61 (M.1 53 0).toNatClampNeg)], M)) rfl (fun _ => ?_)
  refine pm_irun 2 (σ' := (24, [some (.ref 49), some (.long ((M.2 61 (M.1 53 0).toNatClampNeg) * (M.2 61 (M.1 53 1).toNatClampNeg))), none, none], [], M)) rfl ?_
  refine pm_ilt (fun y => (24, [some (.ref 49), some (.long y), none, none], [], M)) (fun x1 => ?_)
  refine pm_irun 2 (σ' := (26, [some (.ref 49), some (.long x1), none, some (.int (0 : Int32))], [], M)) rfl ?_
  refine pm_iloop (fun (g : Int64 → Int32 → pm_M → Option (Int64 × pm_M)) => ∀ (x4 : Int64) (x5 : Int32) (M3 : pm_M), I_R_weight (g x4 x5 M3) (26, [some (.ref 49), some (.long x4), none, some (.int x5)], [], M3)) (fun _ _ _ => pm_inone) (fun g2 hg2 x4 x5 M3 => ?_) 1000000 _ _ _
  show I_R_weight _ (26, [some (.ref 49), some (.long x4), none, some (.int x5)], [], M3)
  refine pm_irun 3 (σ' := (31, [some (.ref 49), some (.long x4), none, some (.int x5)], [.int (M3.1 49 1), .int x5], M3)) rfl ?_
  refine pm_iite (σ1 := (68, [some (.ref 49), some (.long x4), none, some (.int x5)], [], M3)) (σ2 := (34, [some (.ref 49), some (.long x4), none, some (.int x5)], [], M3)) rfl (fun _ => ?_) (fun _ => ?_)
  · refine pm_irun 2 (σ' := (70, [some (.ref 49), some (.long x4), none, some (.int (0 : Int32))], [], M3)) rfl ?_
    refine pm_iloop (fun (g : Int64 → Int32 → pm_M → Option (Int64 × pm_M)) => ∀ (x8 : Int64) (x9 : Int32) (M7 : pm_M), I_R_weight (g x8 x9 M7) (70, [some (.ref 49), some (.long x8), none, some (.int x9)], [], M7)) (fun _ _ _ => pm_inone) (fun g6 hg6 x8 x9 M7 => ?_) 1000000 _ _ _
    show I_R_weight _ (70, [some (.ref 49), some (.long x8), none, some (.int x9)], [], M7)
    refine pm_irun 3 (σ' := (75, [some (.ref 49), some (.long x8), none, some (.int x9)], [.int (M7.1 49 1), .int x9], M7)) rfl ?_
    refine pm_iite (σ1 := (106, [some (.ref 49), some (.long x8), none, some (.int x9)], [], M7)) (σ2 := (78, [some (.ref 49), some (.long x8), none, some (.int x9)], [], M7)) rfl (fun _ => ?_) (fun _ => ?_)
    · refine pm_irun 1 (σ' := (107, [some (.ref 49), some (.long x8), none, some (.int x9)], [.long x8], M7)) rfl ?_
      exact pm_irL rfl rfl
    · refine pm_irun 6 (σ' := (86, [some (.ref 49), some (.long x8), none, some (.int x9)], [.int x9, .ref 64, .int x9, .ref 49, .long x8], M7)) rfl ?_
      refine pm_igd (σ1 := (87, [some (.ref 49), some (.long x8), none, some (.int x9)], [.int (M7.1 64 x9.toNatClampNeg), .int x9, .ref 49, .long x8], M7)) rfl (fun _ => ?_)
      refine pm_irun 5 (σ' := (94, [some (.ref 49), some (.long x8), none, some (.int x9)], [.int ((5 : Int32) + x9), .ref 64, .int (M7.1 64 x9.toNatClampNeg), .int x9, .ref 49, .long x8], M7)) rfl ?_
      refine pm_igd (σ1 := (95, [some (.ref 49), some (.long x8), none, some (.int x9)], [.int (M7.1 64 ((5 : Int32) + x9).toNatClampNeg), .int (M7.1 64 x9.toNatClampNeg), .int x9, .ref 49, .long x8], M7)) rfl (fun _ => ?_)
      refine pm_icL (as := [.ref 49, .int x9, .int (M7.1 64 x9.toNatClampNeg), .int (M7.1 64 ((5 : Int32) + x9).toNatClampNeg)]) (rest := [.long x8]) rfl rfl rfl rfl (Nat.le_of_ble_eq_true rfl) rfl (fun r h => pm_Ev_mono (Nat.le_of_ble_eq_true rfl) (sR_heap_ok x9 (M7.1 64 x9.toNatClampNeg) (M7.1 64 ((5 : Int32) + x9).toNatClampNeg) M7 r h)) (fun v11 M10 => ?_)
      show pm_Im _ _ _ _ _ _ (98, [some (.ref 49), some (.long x8), none, some (.int x9)], [.long v11, .long x8], M10)
      refine pm_irun 2 (σ' := (100, [some (.ref 49), some (.long (x8 * v11)), none, some (.int x9)], [], M10)) rfl ?_
      refine pm_ilt (fun y => (100, [some (.ref 49), some (.long y), none, some (.int x9)], [], M10)) (fun x12 => ?_)
      refine pm_irun 1 (σ' := (103, [some (.ref 49), some (.long x12), none, some (.int (x9 + (1 : Int32)))], [], M10)) rfl ?_
      refine pm_ilt (fun y => (103, [some (.ref 49), some (.long x12), none, some (.int y)], [], M10)) (fun x13 => ?_)
      refine pm_irun 1 (σ' := (70, [some (.ref 49), some (.long x12), none, some (.int x13)], [], M10)) rfl ?_
      exact hg6 _ _ _
  · refine pm_irun 6 (σ' := (44, [some (.ref 49), some (.long x4), none, some (.int x5)], [.int x5, .ref 64, .ref 61, .long x4], M3)) rfl ?_
    refine pm_igd (σ1 := (45, [some (.ref 49), some (.long x4), none, some (.int x5)], [.int (M3.1 64 x5.toNatClampNeg), .ref 61, .long x4], M3)) rfl (fun _ => ?_)
    refine pm_igd (σ1 := (46, [some (.ref 49), some (.long x4), none, some (.int x5)], [.long (M3.2 61 (M3.1 64 x5.toNatClampNeg).toNatClampNeg), .long x4], M3)) rfl (fun _ => ?_)
    refine pm_irun 7 (σ' := (57, [some (.ref 49), some (.long x4), none, some (.int x5)], [.int ((5 : Int32) + x5), .ref 64, .ref 61, .long (M3.2 61 (M3.1 64 x5.toNatClampNeg).toNatClampNeg), .long x4], M3)) rfl ?_
    refine pm_igd (σ1 := (58, [some (.ref 49), some (.long x4), none, some (.int x5)], [.int (M3.1 64 ((5 : Int32) + x5).toNatClampNeg), .ref 61, .long (M3.2 61 (M3.1 64 x5.toNatClampNeg).toNatClampNeg), .long x4], M3)) rfl (fun _ => ?_)
    refine pm_igd (σ1 := (59, [some (.ref 49), some (.long x4), none, some (.int x5)], [.long (M3.2 61 (M3.1 64 ((5 : Int32) + x5).toNatClampNeg).toNatClampNeg), .long (M3.2 61 (M3.1 64 x5.toNatClampNeg).toNatClampNeg), .long x4], M3)) rfl (fun _ => ?_)
    refine pm_irun 1 (σ' := (60, [some (.ref 49), some (.long x4), none, some (.int x5)], [.long ((M3.2 61 (M3.1 64 x5.toNatClampNeg).toNatClampNeg) * (M3.2 61 (M3.1 64 ((5 : Int32) + x5).toNatClampNeg).toNatClampNeg)), .long x4], M3)) rfl ?_
    refine pm_igd (σ1 := (61, [some (.ref 49), some (.long x4), none, some (.int x5)], [.long (x4 / ((M3.2 61 (M3.1 64 x5.toNatClampNeg).toNatClampNeg) * (M3.2 61 (M3.1 64 ((5 : Int32) + x5).toNatClampNeg).toNatClampNeg)))], M3)) rfl (fun _ => ?_)
    refine pm_irun 1 (σ' := (62, [some (.ref 49), some (.long (x4 / ((M3.2 61 (M3.1 64 x5.toNatClampNeg).toNatClampNeg) * (M3.2 61 (M3.1 64 ((5 : Int32) + x5).toNatClampNeg).toNatClampNeg)))), none, some (.int x5)], [], M3)) rfl ?_
    refine pm_ilt (fun y => (62, [some (.ref 49), some (.long y), none, some (.int x5)], [], M3)) (fun x14 => ?_)
    refine pm_irun 1 (σ' := (65, [some (.ref 49), some (.long x14), none, some (.int (x5 + (1 : Int32)))], [], M3)) rfl ?_
    refine pm_ilt (fun y => (65, [some (.ref 49), some (.long x14), none, some (.int y)], [], M3)) (fun x15 => ?_)
    refine pm_irun 1 (σ' := (26, [some (.ref 49), some (.long x14), none, some (.int x15)], [], M3)) rfl ?_
    exact hg2 _ _ _
def sR_odds (a1 : Int32) (a2 : Int32) (M : pm_M) : Option (Int64 × pm_M) := pm_bd (sR_isSheet a1 M) fun v2 M1 => if v2 = 0 then (some ((-4611686018427387904 : Int64), M1)) else (pm_bd (sR_in (a2.toInt64) (0 : Int64) (1 : Int64) M1) fun v4 M3 => if v4 = 0 then (some ((-4611686018427387904 : Int64), M3)) else (pm_bd (sR_isSound M3) fun v6 M5 => if v6 = 0 then (some ((-4611686018427387904 : Int64), M5)) else (if pm_in a1 4 then (if (M5.1 78 a1.toNatClampNeg) = (-1 : Int32) then (some ((-4611686018427387904 : Int64), M5)) else (pm_bd (sR_readsState a1 M5) fun v8 M7 => if ¬ v8 = 0 then (pm_bv (sR_constants (M7.1 49 1) (-1 : Int32) M7) fun M9 => pm_bd (sR_weight M9) fun v11 M10 => pm_bd (sR_whole (M10.1 53 0) (M10.1 53 1) M10) fun v13 M12 => pm_bd (sR_part v11 v13 a2 M12) fun v15 M14 => some (v15, M14)) else (some ((-4611686018427387904 : Int64), M7)))) else none)))
abbrev I_R_odds (sh : Option (Int64 × pm_M)) (σ : pm_St) : Prop := pm_Im none (pm_Ev 14) pm_T160 (some .long) pm_rL sh σ
set_option maxHeartbeats 4000000 in
set_option maxRecDepth 100000 in
theorem sR_odds_ok (a1 : Int32) (a2 : Int32) (M : pm_M) : ∀ r, sR_odds a1 a2 M = some r → pm_Ev 15 160 [.ref 49, .int a1, .int a2] M (pm_rL r).1 (pm_rL r).2 := by
  refine pm_meth (al := [some (.ref 49), some (.int a1), some (.int a2)]) rfl rfl rfl rfl rfl ?_
  unfold sR_odds
  show I_R_odds _ (0, [some (.ref 49), some (.int a1), some (.int a2)], [], M)
  refine pm_irun 1 (σ' := (1, [some (.ref 49), some (.int a1), some (.int a2)], [.int a1], M)) rfl ?_
  refine pm_icI (as := [.int a1]) (rest := []) rfl rfl rfl rfl (Nat.le_of_ble_eq_true rfl) rfl (fun r h => pm_Ev_mono (Nat.le_of_ble_eq_true rfl) (sR_isSheet_ok a1 M r h)) (fun v2 M1 => ?_)
  show pm_Im _ _ _ _ _ _ (4, [some (.ref 49), some (.int a1), some (.int a2)], [.int v2], M1)
  refine pm_iite (σ1 := (42, [some (.ref 49), some (.int a1), some (.int a2)], [], M1)) (σ2 := (7, [some (.ref 49), some (.int a1), some (.int a2)], [], M1)) rfl (fun _ => ?_) (fun _ => ?_)
  · refine pm_irun 1 (σ' := (45, [some (.ref 49), some (.int a1), some (.int a2)], [.long (-4611686018427387904 : Int64)], M1)) rfl ?_
    exact pm_irL rfl rfl
  · refine pm_irun 4 (σ' := (11, [some (.ref 49), some (.int a1), some (.int a2)], [.long (1 : Int64), .long (0 : Int64), .long a2.toInt64], M1)) rfl ?_
    refine pm_icI (as := [.long a2.toInt64, .long (0 : Int64), .long (1 : Int64)]) (rest := []) rfl rfl rfl rfl (Nat.le_of_ble_eq_true rfl) rfl (fun r h => pm_Ev_mono (Nat.le_of_ble_eq_true rfl) (sR_in_ok (a2.toInt64) (0 : Int64) (1 : Int64) M1 r h)) (fun v4 M3 => ?_)
    show pm_Im _ _ _ _ _ _ (14, [some (.ref 49), some (.int a1), some (.int a2)], [.int v4], M3)
    refine pm_iite (σ1 := (42, [some (.ref 49), some (.int a1), some (.int a2)], [], M3)) (σ2 := (17, [some (.ref 49), some (.int a1), some (.int a2)], [], M3)) rfl (fun _ => ?_) (fun _ => ?_)
    · refine pm_irun 1 (σ' := (45, [some (.ref 49), some (.int a1), some (.int a2)], [.long (-4611686018427387904 : Int64)], M3)) rfl ?_
      exact pm_irL rfl rfl
    · refine pm_irun 1 (σ' := (18, [some (.ref 49), some (.int a1), some (.int a2)], [.ref 49], M3)) rfl ?_
      refine pm_icI (as := [.ref 49]) (rest := []) rfl rfl rfl rfl (Nat.le_of_ble_eq_true rfl) rfl (fun r h => pm_Ev_mono (Nat.le_of_ble_eq_true rfl) (sR_isSound_ok M3 r h)) (fun v6 M5 => ?_)
      show pm_Im _ _ _ _ _ _ (21, [some (.ref 49), some (.int a1), some (.int a2)], [.int v6], M5)
      refine pm_iite (σ1 := (42, [some (.ref 49), some (.int a1), some (.int a2)], [], M5)) (σ2 := (24, [some (.ref 49), some (.int a1), some (.int a2)], [], M5)) rfl (fun _ => ?_) (fun _ => ?_)
      · refine pm_irun 1 (σ' := (45, [some (.ref 49), some (.int a1), some (.int a2)], [.long (-4611686018427387904 : Int64)], M5)) rfl ?_
        exact pm_irL rfl rfl
      · refine pm_irun 3 (σ' := (29, [some (.ref 49), some (.int a1), some (.int a2)], [.int a1, .ref 78], M5)) rfl ?_
        refine pm_igd (σ1 := (30, [some (.ref 49), some (.int a1), some (.int a2)], [.int (M5.1 78 a1.toNatClampNeg)], M5)) rfl (fun _ => ?_)
        refine pm_irun 1 (σ' := (31, [some (.ref 49), some (.int a1), some (.int a2)], [.int (-1 : Int32), .int (M5.1 78 a1.toNatClampNeg)], M5)) rfl ?_
        refine pm_iite (σ1 := (42, [some (.ref 49), some (.int a1), some (.int a2)], [], M5)) (σ2 := (34, [some (.ref 49), some (.int a1), some (.int a2)], [], M5)) rfl (fun _ => ?_) (fun _ => ?_)
        · refine pm_irun 1 (σ' := (45, [some (.ref 49), some (.int a1), some (.int a2)], [.long (-4611686018427387904 : Int64)], M5)) rfl ?_
          exact pm_irL rfl rfl
        · refine pm_irun 2 (σ' := (36, [some (.ref 49), some (.int a1), some (.int a2)], [.int a1, .ref 49], M5)) rfl ?_
          refine pm_icI (as := [.ref 49, .int a1]) (rest := []) rfl rfl rfl rfl (Nat.le_of_ble_eq_true rfl) rfl (fun r h => pm_Ev_mono (Nat.le_of_ble_eq_true rfl) (sR_readsState_ok a1 M5 r h)) (fun v8 M7 => ?_)
          show pm_Im _ _ _ _ _ _ (39, [some (.ref 49), some (.int a1), some (.int a2)], [.int v8], M7)
          refine pm_iite (σ1 := (46, [some (.ref 49), some (.int a1), some (.int a2)], [], M7)) (σ2 := (42, [some (.ref 49), some (.int a1), some (.int a2)], [], M7)) rfl (fun _ => ?_) (fun _ => ?_)
          · refine pm_irun 4 (σ' := (52, [some (.ref 49), some (.int a1), some (.int a2)], [.int (-1 : Int32), .int (M7.1 49 1), .ref 49], M7)) rfl ?_
            refine pm_icV (as := [.ref 49, .int (M7.1 49 1), .int (-1 : Int32)]) (rest := []) rfl rfl rfl rfl (Nat.le_of_ble_eq_true rfl) rfl (fun r h => pm_Ev_mono (Nat.le_of_ble_eq_true rfl) (sR_constants_ok (M7.1 49 1) (-1 : Int32) M7 r h)) (fun M9 => ?_)
            show pm_Im _ _ _ _ _ _ (55, [some (.ref 49), some (.int a1), some (.int a2)], [], M9)
            refine pm_irun 1 (σ' := (56, [some (.ref 49), some (.int a1), some (.int a2)], [.ref 49], M9)) rfl ?_
            refine pm_icL (as := [.ref 49]) (rest := []) rfl rfl rfl rfl (Nat.le_of_ble_eq_true rfl) rfl (fun r h => pm_Ev_mono (Nat.le_of_ble_eq_true rfl) (sR_weight_ok M9 r h)) (fun v11 M10 => ?_)
            show pm_Im _ _ _ _ _ _ (59, [some (.ref 49), some (.int a1), some (.int a2)], [.long v11], M10)
            refine pm_irun 4 (σ' := (65, [some (.ref 49), some (.int a1), some (.int a2)], [.int (0 : Int32), .ref 53, .ref 49, .long v11], M10)) rfl ?_
            refine pm_igt (c := pm_in (0 : Int32) 2) (σ1 := (66, [some (.ref 49), some (.int a1), some (.int a2)], [.int (M10.1 53 0), .ref 49, .long v11], M10)) (by decide) rfl ?_
            refine pm_irun 3 (σ' := (71, [some (.ref 49), some (.int a1), some (.int a2)], [.int (1 : Int32), .ref 53, .int (M10.1 53 0), .ref 49, .long v11], M10)) rfl ?_
            refine pm_igt (c := pm_in (1 : Int32) 2) (σ1 := (72, [some (.ref 49), some (.int a1), some (.int a2)], [.int (M10.1 53 1), .int (M10.1 53 0), .ref 49, .long v11], M10)) (by decide) rfl ?_
            refine pm_icL (as := [.ref 49, .int (M10.1 53 0), .int (M10.1 53 1)]) (rest := [.long v11]) rfl rfl rfl rfl (Nat.le_of_ble_eq_true rfl) rfl (fun r h => pm_Ev_mono (Nat.le_of_ble_eq_true rfl) (sR_whole_ok (M10.1 53 0) (M10.1 53 1) M10 r h)) (fun v13 M12 => ?_)
            show pm_Im _ _ _ _ _ _ (75, [some (.ref 49), some (.int a1), some (.int a2)], [.long v13, .long v11], M12)
            refine pm_irun 1 (σ' := (76, [some (.ref 49), some (.int a1), some (.int a2)], [.int a2, .long v13, .long v11], M12)) rfl ?_
            refine pm_icL (as := [.long v11, .long v13, .int a2]) (rest := []) rfl rfl rfl rfl (Nat.le_of_ble_eq_true rfl) rfl (fun r h => pm_Ev_mono (Nat.le_of_ble_eq_true rfl) (sR_part_ok v11 v13 a2 M12 r h)) (fun v15 M14 => ?_)
            show pm_Im _ _ _ _ _ _ (79, [some (.ref 49), some (.int a1), some (.int a2)], [.long v15], M14)
            exact pm_irL rfl rfl
          · refine pm_irun 1 (σ' := (45, [some (.ref 49), some (.int a1), some (.int a2)], [.long (-4611686018427387904 : Int64)], M7)) rfl ?_
            exact pm_irL rfl rfl
def sJArr_fillI_29 (a2 : Int32) (M : pm_M) : Option (pm_M) := pm_loop (fun _ _ => none) (fun (g1 : Int32 → pm_M → Option (pm_M)) x3 M2 => if (10 : Int32) ≤ x3 then (some M2) else (if pm_in x3 10 then (pm_lt (pm_sI M2 29 x3.toNatClampNeg a2) fun M4 => pm_lt ((x3 + (1 : Int32))) fun x5 => g1 x5 M4) else none)) 1000000 (0 : Int32) M
abbrev I_JArr_fillI_29 (sh : Option (pm_M)) (σ : pm_St) : Prop := pm_Im none (pm_Ev 0) pm_T208 none pm_rV sh σ
set_option maxHeartbeats 4000000 in
set_option maxRecDepth 100000 in
theorem sJArr_fillI_29_ok (a2 : Int32) (M : pm_M) : ∀ r, sJArr_fillI_29 a2 M = some r → pm_Ev 1 208 [.ref 29, .int a2] M (pm_rV r).1 (pm_rV r).2 := by
  refine pm_meth (al := [some (.ref 29), some (.int a2), none, none]) rfl rfl rfl rfl rfl ?_
  unfold sJArr_fillI_29
  show I_JArr_fillI_29 _ (0, [some (.ref 29), some (.int a2), none, none], [], M)
  refine pm_irun 2 (σ' := (2, [some (.ref 29), some (.int a2), some (.int (0 : Int32)), none], [], M)) rfl ?_
  refine pm_irun 3 (σ' := (5, [some (.ref 29), some (.int a2), some (.int (0 : Int32)), some (.int (10 : Int32))], [], M)) rfl ?_
  refine pm_iloop (fun (g : Int32 → pm_M → Option (pm_M)) => ∀ (x3 : Int32) (M2 : pm_M), I_JArr_fillI_29 (g x3 M2) (5, [some (.ref 29), some (.int a2), some (.int x3), some (.int (10 : Int32))], [], M2)) (fun _ _ => pm_inone) (fun g1 hg1 x3 M2 => ?_) 1000000 _ _
  show I_JArr_fillI_29 _ (5, [some (.ref 29), some (.int a2), some (.int x3), some (.int (10 : Int32))], [], M2)
  refine pm_irun 2 (σ' := (7, [some (.ref 29), some (.int a2), some (.int x3), some (.int (10 : Int32))], [.int (10 : Int32), .int x3], M2)) rfl ?_
  refine pm_iite (σ1 := (20, [some (.ref 29), some (.int a2), some (.int x3), some (.int (10 : Int32))], [], M2)) (σ2 := (10, [some (.ref 29), some (.int a2), some (.int x3), some (.int (10 : Int32))], [], M2)) rfl (fun _ => ?_) (fun _ => ?_)
  · exact pm_irV rfl rfl
  · refine pm_irun 3 (σ' := (13, [some (.ref 29), some (.int a2), some (.int x3), some (.int (10 : Int32))], [.int a2, .int x3, .ref 29], M2)) rfl ?_
    refine pm_igd (σ1 := (14, [some (.ref 29), some (.int a2), some (.int x3), some (.int (10 : Int32))], [], (pm_sI M2 29 x3.toNatClampNeg a2))) rfl (fun _ => ?_)
    refine pm_ilt (fun y => (14, [some (.ref 29), some (.int a2), some (.int x3), some (.int (10 : Int32))], [], y)) (fun M4 => ?_)
    refine pm_irun 1 (σ' := (17, [some (.ref 29), some (.int a2), some (.int (x3 + (1 : Int32))), some (.int (10 : Int32))], [], M4)) rfl ?_
    refine pm_ilt (fun y => (17, [some (.ref 29), some (.int a2), some (.int y), some (.int (10 : Int32))], [], M4)) (fun x5 => ?_)
    refine pm_irun 1 (σ' := (5, [some (.ref 29), some (.int a2), some (.int x5), some (.int (10 : Int32))], [], M4)) rfl ?_
    exact hg1 _ _
def sStates_takeIfGreater (a1 : Int64) (M : pm_M) : Option (pm_M) := if 0 < (lg_cmp a1 (M.2 23 4)) then (pm_lt (pm_sL M 23 4 a1) fun M1 => pm_lt (pm_cI M1 28 29 0 0 10) fun M2 => some M2) else (some M)
abbrev I_States_takeIfGreater (sh : Option (pm_M)) (σ : pm_St) : Prop := pm_Im none (pm_Ev 0) pm_T24 none pm_rV sh σ
set_option maxHeartbeats 4000000 in
set_option maxRecDepth 100000 in
theorem sStates_takeIfGreater_ok (a1 : Int64) (M : pm_M) : ∀ r, sStates_takeIfGreater a1 M = some r → pm_Ev 1 24 [.ref 23, .long a1] M (pm_rV r).1 (pm_rV r).2 := by
  refine pm_meth (al := [some (.ref 23), some (.long a1), none]) rfl rfl rfl rfl rfl ?_
  unfold sStates_takeIfGreater
  show I_States_takeIfGreater _ (0, [some (.ref 23), some (.long a1), none], [], M)
  refine pm_irun 4 (σ' := (6, [some (.ref 23), some (.long a1), none], [.int (lg_cmp a1 (M.2 23 4))], M)) rfl ?_
  refine pm_iite (σ1 := (10, [some (.ref 23), some (.long a1), none], [], M)) (σ2 := (9, [some (.ref 23), some (.long a1), none], [], M)) rfl (fun _ => ?_) (fun _ => ?_)
  · refine pm_irun 2 (σ' := (12, [some (.ref 23), some (.long a1), none], [.long a1, .ref 23], M)) rfl ?_
    refine pm_irun 1 (σ' := (15, [some (.ref 23), some (.long a1), none], [], (pm_sL M 23 4 a1))) rfl ?_
    refine pm_ilt (fun y => (15, [some (.ref 23), some (.long a1), none], [], y)) (fun M1 => ?_)
    refine pm_irun 8 (σ' := (29, [some (.ref 23), some (.long a1), none], [.ref 29, .int (0 : Int32), .ref 29, .int (0 : Int32), .ref 28], M1)) rfl ?_
    refine pm_irun 1 (σ' := (30, [some (.ref 23), some (.long a1), none], [.int (10 : Int32), .int (0 : Int32), .ref 29, .int (0 : Int32), .ref 28], M1)) rfl ?_
    refine pm_igt (c := ¬ (0 : Int32) < 0 ∧ ¬ (0 : Int32) < 0 ∧ ¬ (10 : Int32) < 0 ∧ 0 + 10 ≤ 10 ∧ 0 + 10 ≤ 10 ∧ (([] : List Value).map fun v => v.category).sum ≤ 8) (σ1 := (33, [some (.ref 23), some (.long a1), none], [], (pm_cI M1 28 29 0 0 10))) (by decide) rfl ?_
    refine pm_ilt (fun y => (33, [some (.ref 23), some (.long a1), none], [], y)) (fun M2 => ?_)
    exact pm_irV rfl rfl
  · exact pm_irV rfl rfl
def sStates_tryPlace : Nat → Int32 → Int32 → Int32 → Int64 → pm_M → Option (pm_M)
  | 0, _, _, _, _, _ => none
  | k + 1, a2, a3, a4, a5, M => if a2 < ((2 : Int32) * (M.1 23 0)) then (pm_jn (fun (q3 : Int32) (M2 : pm_M) => pm_jn (fun (q6 : Int32) (M5 : pm_M) => pm_jn (fun (q9 : Int32) (M8 : pm_M) => pm_lt ((q9 + q6)) fun x10 => pm_jn (fun (q13 : Int32) (M12 : pm_M) => pm_jn (fun (q16 : Int32) (M15 : pm_M) => pm_loop (fun _ _ => none) (fun (g17 : Int32 → pm_M → Option (pm_M)) x19 M18 => if x19 < q16 then (some M18) else (pm_bd (sC_choose q13 x19 M18) fun v21 M20 => if pm_in x10 10 then (pm_bd (sC_power (M20.2 25 x10.toNatClampNeg) x19 M20) fun v23 M22 => pm_lt (((a5 * v21) * v23)) fun x24 => pm_jn (fun (x27 : Int64) (M26 : pm_M) => if ¬ (lg_cmp x27 (0 : Int64)) = 0 then (if pm_in x10 10 then (pm_lt (pm_sI M26 28 x10.toNatClampNeg x19) fun M28 => pm_jn (fun (q31 : Int32) (M30 : pm_M) => pm_jn (fun (q34 : Int32) (M33 : pm_M) => pm_bv (sStates_tryPlace k (a2 + (1 : Int32)) q31 q34 x27 M33) fun M35 => pm_lt ((x19 + (-1 : Int32))) fun x36 => g17 x36 M35) fun (j32 : Int32 → pm_M → Option (pm_M)) => if q3 = 0 then (j32 a4 M30) else (j32 ((a4 - x19)) M30)) fun (j29 : Int32 → pm_M → Option (pm_M)) => if q3 = 0 then (j29 ((a3 - x19)) M28) else (j29 a3 M28)) else none) else (pm_lt ((x19 + (-1 : Int32))) fun x37 => g17 x37 M26)) fun (j25 : Int64 → pm_M → Option (pm_M)) => if q3 = 0 then (j25 x24 M22) else (if pm_in q6 5 then (if ¬ (M22.1 24 q6.toNatClampNeg) = 0 then (j25 x24 M22) else (if pm_in q6 10 then (pm_bd (sC_factorial ((M22.1 28 q6.toNatClampNeg) + x19) M22) fun v39 M38 => pm_lt ((x24 * v39)) fun x40 => j25 x40 M38) else none)) else none)) else none)) 1000000 q13 M15) fun (j14 : Int32 → pm_M → Option (pm_M)) => if ¬ q6 = ((M12.1 23 0) - (1 : Int32)) then (j14 (0 : Int32) M12) else (j14 q13 M12)) fun (j11 : Int32 → pm_M → Option (pm_M)) => if q3 = 0 then (j11 a3 M8) else (j11 a4 M8)) fun (j7 : Int32 → pm_M → Option (pm_M)) => if q3 = 0 then (j7 (0 : Int32) M5) else (j7 (5 : Int32) M5)) fun (j4 : Int32 → pm_M → Option (pm_M)) => if q3 = 0 then (j4 a2 M2) else (j4 ((a2 - (M2.1 23 0))) M2)) fun (j1 : Int32 → pm_M → Option (pm_M)) => if a2 < (M.1 23 0) then (j1 (0 : Int32) M) else (j1 (1 : Int32) M)) else (if ¬ a3 = 0 then (some M) else (if ¬ a4 = 0 then (some M) else (pm_bv (sStates_takeIfGreater a5 M) fun M41 => some M41)))
set_option maxHeartbeats 4000000 in
set_option maxRecDepth 100000 in
theorem sStates_tryPlace_ok : ∀ (k : Nat) (a2 : Int32) (a3 : Int32) (a4 : Int32) (a5 : Int64) (M : pm_M), ∀ r, sStates_tryPlace k a2 a3 a4 a5 M = some r → pm_Ev (k + 3) 23 [.ref 23, .int a2, .int a3, .int a4, .long a5] M (pm_rV r).1 (pm_rV r).2
  | 0, _, _, _, _, _, r, h => by cases h
  | k + 1, a2, a3, a4, a5, M, r, h => by
    have ih := sStates_tryPlace_ok k
    refine pm_meth (d := k + 3) (T := pm_T23) (ret := none) (rt := pm_rV) (sh := sStates_tryPlace (k + 1) a2 a3 a4 a5 M) (al := [some (.ref 23), some (.int a2), some (.int a3), some (.int a4), some (.long a5), none, none, none, none, none, none, none, none, none]) rfl rfl rfl rfl rfl ?_ r h
    show pm_Im _ _ _ _ _ (if a2 < ((2 : Int32) * (M.1 23 0)) then (pm_jn (fun (q3 : Int32) (M2 : pm_M) => pm_jn (fun (q6 : Int32) (M5 : pm_M) => pm_jn (fun (q9 : Int32) (M8 : pm_M) => pm_lt ((q9 + q6)) fun x10 => pm_jn (fun (q13 : Int32) (M12 : pm_M) => pm_jn (fun (q16 : Int32) (M15 : pm_M) => pm_loop (fun _ _ => none) (fun (g17 : Int32 → pm_M → Option (pm_M)) x19 M18 => if x19 < q16 then (some M18) else (pm_bd (sC_choose q13 x19 M18) fun v21 M20 => if pm_in x10 10 then (pm_bd (sC_power (M20.2 25 x10.toNatClampNeg) x19 M20) fun v23 M22 => pm_lt (((a5 * v21) * v23)) fun x24 => pm_jn (fun (x27 : Int64) (M26 : pm_M) => if ¬ (lg_cmp x27 (0 : Int64)) = 0 then (if pm_in x10 10 then (pm_lt (pm_sI M26 28 x10.toNatClampNeg x19) fun M28 => pm_jn (fun (q31 : Int32) (M30 : pm_M) => pm_jn (fun (q34 : Int32) (M33 : pm_M) => pm_bv (sStates_tryPlace k (a2 + (1 : Int32)) q31 q34 x27 M33) fun M35 => pm_lt ((x19 + (-1 : Int32))) fun x36 => g17 x36 M35) fun (j32 : Int32 → pm_M → Option (pm_M)) => if q3 = 0 then (j32 a4 M30) else (j32 ((a4 - x19)) M30)) fun (j29 : Int32 → pm_M → Option (pm_M)) => if q3 = 0 then (j29 ((a3 - x19)) M28) else (j29 a3 M28)) else none) else (pm_lt ((x19 + (-1 : Int32))) fun x37 => g17 x37 M26)) fun (j25 : Int64 → pm_M → Option (pm_M)) => if q3 = 0 then (j25 x24 M22) else (if pm_in q6 5 then (if ¬ (M22.1 24 q6.toNatClampNeg) = 0 then (j25 x24 M22) else (if pm_in q6 10 then (pm_bd (sC_factorial ((M22.1 28 q6.toNatClampNeg) + x19) M22) fun v39 M38 => pm_lt ((x24 * v39)) fun x40 => j25 x40 M38) else none)) else none)) else none)) 1000000 q13 M15) fun (j14 : Int32 → pm_M → Option (pm_M)) => if ¬ q6 = ((M12.1 23 0) - (1 : Int32)) then (j14 (0 : Int32) M12) else (j14 q13 M12)) fun (j11 : Int32 → pm_M → Option (pm_M)) => if q3 = 0 then (j11 a3 M8) else (j11 a4 M8)) fun (j7 : Int32 → pm_M → Option (pm_M)) => if q3 = 0 then (j7 (0 : Int32) M5) else (j7 (5 : Int32) M5)) fun (j4 : Int32 → pm_M → Option (pm_M)) => if q3 = 0 then (j4 a2 M2) else (j4 ((a2 - (M2.1 23 0))) M2)) fun (j1 : Int32 → pm_M → Option (pm_M)) => if a2 < (M.1 23 0) then (j1 (0 : Int32) M) else (j1 (1 : Int32) M)) else (if ¬ a3 = 0 then (some M) else (if ¬ a4 = 0 then (some M) else (pm_bv (sStates_takeIfGreater a5 M) fun M41 => some M41)))) _
    refine pm_irun 5 (σ' := (7, [some (.ref 23), some (.int a2), some (.int a3), some (.int a4), some (.long a5), none, none, none, none, none, none, none, none, none], [.int ((2 : Int32) * (M.1 23 0)), .int a2], M)) rfl ?_
    refine pm_iite (σ1 := (25, [some (.ref 23), some (.int a2), some (.int a3), some (.int a4), some (.long a5), none, none, none, none, none, none, none, none, none], [], M)) (σ2 := (10, [some (.ref 23), some (.int a2), some (.int a3), some (.int a4), some (.long a5), none, none, none, none, none, none, none, none, none], [], M)) rfl (fun _ => ?_) (fun _ => ?_)
    · refine pm_irun 3 (σ' := (30, [some (.ref 23), some (.int a2), some (.int a3), some (.int a4), some (.long a5), none, none, none, none, none, none, none, none, none], [.int (M.1 23 0), .int a2], M)) rfl ?_
      refine pm_ijn (fun (g : Int32 → pm_M → Option (pm_M)) => ∀ (q3 : Int32) (M2 : pm_M), pm_Im none (pm_Ev (k + 3)) pm_T23 none pm_rV (g q3 M2) (38, [some (.ref 23), some (.int a2), some (.int a3), some (.int a4), some (.long a5), none, none, none, none, none, none, none, none, none], [.int q3], M2)) (fun (q3 : Int32) (M2 : pm_M) => ?_) (fun j1 hj1 => ?_)
      · show pm_Im none (pm_Ev (k + 3)) pm_T23 none pm_rV _ (38, [some (.ref 23), some (.int a2), some (.int a3), some (.int a4), some (.long a5), none, none, none, none, none, none, none, none, none], [.int q3], M2)
        refine pm_irun 1 (σ' := (40, [some (.ref 23), some (.int a2), some (.int a3), some (.int a4), some (.long a5), none, some (.int q3), none, none, none, none, none, none, none], [], M2)) rfl ?_
        refine pm_irun 1 (σ' := (42, [some (.ref 23), some (.int a2), some (.int a3), some (.int a4), some (.long a5), none, some (.int q3), none, none, none, none, none, none, none], [.int q3], M2)) rfl ?_
        refine pm_ijn (fun (g : Int32 → pm_M → Option (pm_M)) => ∀ (q6 : Int32) (M5 : pm_M), pm_Im none (pm_Ev (k + 3)) pm_T23 none pm_rV (g q6 M5) (55, [some (.ref 23), some (.int a2), some (.int a3), some (.int a4), some (.long a5), none, some (.int q3), none, none, none, none, none, none, none], [.int q6], M5)) (fun (q6 : Int32) (M5 : pm_M) => ?_) (fun j4 hj4 => ?_)
        · show pm_Im none (pm_Ev (k + 3)) pm_T23 none pm_rV _ (55, [some (.ref 23), some (.int a2), some (.int a3), some (.int a4), some (.long a5), none, some (.int q3), none, none, none, none, none, none, none], [.int q6], M5)
          refine pm_irun 1 (σ' := (57, [some (.ref 23), some (.int a2), some (.int a3), some (.int a4), some (.long a5), none, some (.int q3), some (.int q6), none, none, none, none, none, none], [], M5)) rfl ?_
          refine pm_irun 1 (σ' := (59, [some (.ref 23), some (.int a2), some (.int a3), some (.int a4), some (.long a5), none, some (.int q3), some (.int q6), none, none, none, none, none, none], [.int q3], M5)) rfl ?_
          refine pm_ijn (fun (g : Int32 → pm_M → Option (pm_M)) => ∀ (q9 : Int32) (M8 : pm_M), pm_Im none (pm_Ev (k + 3)) pm_T23 none pm_rV (g q9 M8) (67, [some (.ref 23), some (.int a2), some (.int a3), some (.int a4), some (.long a5), none, some (.int q3), some (.int q6), none, none, none, none, none, none], [.int q9], M8)) (fun (q9 : Int32) (M8 : pm_M) => ?_) (fun j7 hj7 => ?_)
          · show pm_Im none (pm_Ev (k + 3)) pm_T23 none pm_rV _ (67, [some (.ref 23), some (.int a2), some (.int a3), some (.int a4), some (.long a5), none, some (.int q3), some (.int q6), none, none, none, none, none, none], [.int q9], M8)
            refine pm_irun 3 (σ' := (72, [some (.ref 23), some (.int a2), some (.int a3), some (.int a4), some (.long a5), none, some (.int q3), some (.int q6), some (.int (q9 + q6)), none, none, none, none, none], [], M8)) rfl ?_
            refine pm_ilt (fun y => (72, [some (.ref 23), some (.int a2), some (.int a3), some (.int a4), some (.long a5), none, some (.int q3), some (.int q6), some (.int y), none, none, none, none, none], [], M8)) (fun x10 => ?_)
            refine pm_irun 1 (σ' := (74, [some (.ref 23), some (.int a2), some (.int a3), some (.int a4), some (.long a5), none, some (.int q3), some (.int q6), some (.int x10), none, none, none, none, none], [.int q3], M8)) rfl ?_
            refine pm_ijn (fun (g : Int32 → pm_M → Option (pm_M)) => ∀ (q13 : Int32) (M12 : pm_M), pm_Im none (pm_Ev (k + 3)) pm_T23 none pm_rV (g q13 M12) (82, [some (.ref 23), some (.int a2), some (.int a3), some (.int a4), some (.long a5), none, some (.int q3), some (.int q6), some (.int x10), none, none, none, none, none], [.int q13], M12)) (fun (q13 : Int32) (M12 : pm_M) => ?_) (fun j11 hj11 => ?_)
            · show pm_Im none (pm_Ev (k + 3)) pm_T23 none pm_rV _ (82, [some (.ref 23), some (.int a2), some (.int a3), some (.int a4), some (.long a5), none, some (.int q3), some (.int q6), some (.int x10), none, none, none, none, none], [.int q13], M12)
              refine pm_irun 1 (σ' := (84, [some (.ref 23), some (.int a2), some (.int a3), some (.int a4), some (.long a5), none, some (.int q3), some (.int q6), some (.int x10), some (.int q13), none, none, none, none], [], M12)) rfl ?_
              refine pm_irun 5 (σ' := (92, [some (.ref 23), some (.int a2), some (.int a3), some (.int a4), some (.long a5), none, some (.int q3), some (.int q6), some (.int x10), some (.int q13), none, none, none, none], [.int ((M12.1 23 0) - (1 : Int32)), .int q6], M12)) rfl ?_
              refine pm_ijn (fun (g : Int32 → pm_M → Option (pm_M)) => ∀ (q16 : Int32) (M15 : pm_M), pm_Im none (pm_Ev (k + 3)) pm_T23 none pm_rV (g q16 M15) (101, [some (.ref 23), some (.int a2), some (.int a3), some (.int a4), some (.long a5), none, some (.int q3), some (.int q6), some (.int x10), some (.int q13), none, none, none, none], [.int q16], M15)) (fun (q16 : Int32) (M15 : pm_M) => ?_) (fun j14 hj14 => ?_)
              · show pm_Im none (pm_Ev (k + 3)) pm_T23 none pm_rV _ (101, [some (.ref 23), some (.int a2), some (.int a3), some (.int a4), some (.long a5), none, some (.int q3), some (.int q6), some (.int x10), some (.int q13), none, none, none, none], [.int q16], M15)
                refine pm_irun 1 (σ' := (103, [some (.ref 23), some (.int a2), some (.int a3), some (.int a4), some (.long a5), none, some (.int q3), some (.int q6), some (.int x10), some (.int q13), some (.int q16), none, none, none], [], M15)) rfl ?_
                refine pm_irun 2 (σ' := (107, [some (.ref 23), some (.int a2), some (.int a3), some (.int a4), some (.long a5), none, some (.int q3), some (.int q6), some (.int x10), some (.int q13), some (.int q16), some (.int q13), none, none], [], M15)) rfl ?_
                refine pm_iloop (fun (g : Int32 → pm_M → Option (pm_M)) => ∀ (x19 : Int32) (M18 : pm_M), pm_Im none (pm_Ev (k + 3)) pm_T23 none pm_rV (g x19 M18) (107, [some (.ref 23), some (.int a2), some (.int a3), some (.int a4), some (.long a5), none, some (.int q3), some (.int q6), some (.int x10), some (.int q13), some (.int q16), some (.int x19), none, none], [], M18)) (fun _ _ => pm_inone) (fun g17 hg17 x19 M18 => ?_) 1000000 _ _
                show pm_Im none (pm_Ev (k + 3)) pm_T23 none pm_rV _ (107, [some (.ref 23), some (.int a2), some (.int a3), some (.int a4), some (.long a5), none, some (.int q3), some (.int q6), some (.int x10), some (.int q13), some (.int q16), some (.int x19), none, none], [], M18)
                refine pm_irun 2 (σ' := (111, [some (.ref 23), some (.int a2), some (.int a3), some (.int a4), some (.long a5), none, some (.int q3), some (.int q6), some (.int x10), some (.int q13), some (.int q16), some (.int x19), none, none], [.int q16, .int x19], M18)) rfl ?_
                refine pm_iite (σ1 := (232, [some (.ref 23), some (.int a2), some (.int a3), some (.int a4), some (.long a5), none, some (.int q3), some (.int q6), some (.int x10), some (.int q13), some (.int q16), some (.int x19), none, none], [], M18)) (σ2 := (114, [some (.ref 23), some (.int a2), some (.int a3), some (.int a4), some (.long a5), none, some (.int q3), some (.int q6), some (.int x10), some (.int q13), some (.int q16), some (.int x19), none, none], [], M18)) rfl (fun _ => ?_) (fun _ => ?_)
                · exact pm_irV rfl rfl
                · refine pm_irun 3 (σ' := (120, [some (.ref 23), some (.int a2), some (.int a3), some (.int a4), some (.long a5), none, some (.int q3), some (.int q6), some (.int x10), some (.int q13), some (.int q16), some (.int x19), none, none], [.int x19, .int q13, .long a5], M18)) rfl ?_
                  refine pm_icL (as := [.int q13, .int x19]) (rest := [.long a5]) rfl rfl rfl rfl (Nat.le_of_ble_eq_true rfl) rfl (fun r h => pm_Ev_mono (by omega) (sC_choose_ok q13 x19 M18 r h)) (fun v21 M20 => ?_)
                  show pm_Im _ _ _ _ _ _ (123, [some (.ref 23), some (.int a2), some (.int a3), some (.int a4), some (.long a5), none, some (.int q3), some (.int q6), some (.int x10), some (.int q13), some (.int q16), some (.int x19), none, none], [.long v21, .long a5], M20)
                  refine pm_irun 4 (σ' := (130, [some (.ref 23), some (.int a2), some (.int a3), some (.int a4), some (.long a5), none, some (.int q3), some (.int q6), some (.int x10), some (.int q13), some (.int q16), some (.int x19), none, none], [.int x10, .ref 25, .long (a5 * v21)], M20)) rfl ?_
                  refine pm_igd (σ1 := (131, [some (.ref 23), some (.int a2), some (.int a3), some (.int a4), some (.long a5), none, some (.int q3), some (.int q6), some (.int x10), some (.int q13), some (.int q16), some (.int x19), none, none], [.long (M20.2 25 x10.toNatClampNeg), .long (a5 * v21)], M20)) rfl (fun _ => ?_)
                  refine pm_irun 1 (σ' := (133, [some (.ref 23), some (.int a2), some (.int a3), some (.int a4), some (.long a5), none, some (.int q3), some (.int q6), some (.int x10), some (.int q13), some (.int q16), some (.int x19), none, none], [.int x19, .long (M20.2 25 x10.toNatClampNeg), .long (a5 * v21)], M20)) rfl ?_
                  refine pm_icL (as := [.long (M20.2 25 x10.toNatClampNeg), .int x19]) (rest := [.long (a5 * v21)]) rfl rfl rfl rfl (Nat.le_of_ble_eq_true rfl) rfl (fun r h => pm_Ev_mono (by omega) (sC_power_ok (M20.2 25 x10.toNatClampNeg) x19 M20 r h)) (fun v23 M22 => ?_)
                  show pm_Im _ _ _ _ _ _ (136, [some (.ref 23), some (.int a2), some (.int a3), some (.int a4), some (.long a5), none, some (.int q3), some (.int q6), some (.int x10), some (.int q13), some (.int q16), some (.int x19), none, none], [.long v23, .long (a5 * v21)], M22)
                  refine pm_irun 2 (σ' := (139, [some (.ref 23), some (.int a2), some (.int a3), some (.int a4), some (.long a5), none, some (.int q3), some (.int q6), some (.int x10), some (.int q13), some (.int q16), some (.int x19), some (.long ((a5 * v21) * v23)), none], [], M22)) rfl ?_
                  refine pm_ilt (fun y => (139, [some (.ref 23), some (.int a2), some (.int a3), some (.int a4), some (.long a5), none, some (.int q3), some (.int q6), some (.int x10), some (.int q13), some (.int q16), some (.int x19), some (.long y), none], [], M22)) (fun x24 => ?_)
                  refine pm_irun 1 (σ' := (141, [some (.ref 23), some (.int a2), some (.int a3), some (.int a4), some (.long a5), none, some (.int q3), some (.int q6), some (.int x10), some (.int q13), some (.int q16), some (.int x19), some (.long x24), none], [.int q3], M22)) rfl ?_
                  refine pm_ijn (fun (g : Int64 → pm_M → Option (pm_M)) => ∀ (x27 : Int64) (M26 : pm_M), pm_Im none (pm_Ev (k + 3)) pm_T23 none pm_rV (g x27 M26) (172, [some (.ref 23), some (.int a2), some (.int a3), some (.int a4), some (.long a5), none, some (.int q3), some (.int q6), some (.int x10), some (.int q13), some (.int q16), some (.int x19), some (.long x27), none], [], M26)) (fun (x27 : Int64) (M26 : pm_M) => ?_) (fun j25 hj25 => ?_)
                  · show pm_Im none (pm_Ev (k + 3)) pm_T23 none pm_rV _ (172, [some (.ref 23), some (.int a2), some (.int a3), some (.int a4), some (.long a5), none, some (.int q3), some (.int q6), some (.int x10), some (.int q13), some (.int q16), some (.int x19), some (.long x27), none], [], M26)
                    refine pm_irun 3 (σ' := (176, [some (.ref 23), some (.int a2), some (.int a3), some (.int a4), some (.long a5), none, some (.int q3), some (.int q6), some (.int x10), some (.int q13), some (.int q16), some (.int x19), some (.long x27), none], [.int (lg_cmp x27 (0 : Int64))], M26)) rfl ?_
                    refine pm_iite (σ1 := (182, [some (.ref 23), some (.int a2), some (.int a3), some (.int a4), some (.long a5), none, some (.int q3), some (.int q6), some (.int x10), some (.int q13), some (.int q16), some (.int x19), some (.long x27), none], [], M26)) (σ2 := (179, [some (.ref 23), some (.int a2), some (.int a3), some (.int a4), some (.long a5), none, some (.int q3), some (.int q6), some (.int x10), some (.int q13), some (.int q16), some (.int x19), some (.long x27), none], [], M26)) rfl (fun _ => ?_) (fun _ => ?_)
                    · refine pm_irun 4 (σ' := (190, [some (.ref 23), some (.int a2), some (.int a3), some (.int a4), some (.long a5), none, some (.int q3), some (.int q6), some (.int x10), some (.int q13), some (.int q16), some (.int x19), some (.long x27), none], [.int x19, .int x10, .ref 28], M26)) rfl ?_
                      refine pm_igd (σ1 := (191, [some (.ref 23), some (.int a2), some (.int a3), some (.int a4), some (.long a5), none, some (.int q3), some (.int q6), some (.int x10), some (.int q13), some (.int q16), some (.int x19), some (.long x27), none], [], (pm_sI M26 28 x10.toNatClampNeg x19))) rfl (fun _ => ?_)
                      refine pm_ilt (fun y => (191, [some (.ref 23), some (.int a2), some (.int a3), some (.int a4), some (.long a5), none, some (.int q3), some (.int q6), some (.int x10), some (.int q13), some (.int q16), some (.int x19), some (.long x27), none], [], y)) (fun M28 => ?_)
                      refine pm_irun 5 (σ' := (197, [some (.ref 23), some (.int a2), some (.int a3), some (.int a4), some (.long a5), none, some (.int q3), some (.int q6), some (.int x10), some (.int q13), some (.int q16), some (.int x19), some (.long x27), none], [.int q3, .int (a2 + (1 : Int32)), .ref 23], M28)) rfl ?_
                      refine pm_ijn (fun (g : Int32 → pm_M → Option (pm_M)) => ∀ (q31 : Int32) (M30 : pm_M), pm_Im none (pm_Ev (k + 3)) pm_T23 none pm_rV (g q31 M30) (208, [some (.ref 23), some (.int a2), some (.int a3), some (.int a4), some (.long a5), none, some (.int q3), some (.int q6), some (.int x10), some (.int q13), some (.int q16), some (.int x19), some (.long x27), none], [.int q31, .int (a2 + (1 : Int32)), .ref 23], M30)) (fun (q31 : Int32) (M30 : pm_M) => ?_) (fun j29 hj29 => ?_)
                      · show pm_Im none (pm_Ev (k + 3)) pm_T23 none pm_rV _ (208, [some (.ref 23), some (.int a2), some (.int a3), some (.int a4), some (.long a5), none, some (.int q3), some (.int q6), some (.int x10), some (.int q13), some (.int q16), some (.int x19), some (.long x27), none], [.int q31, .int (a2 + (1 : Int32)), .ref 23], M30)
                        refine pm_irun 1 (σ' := (210, [some (.ref 23), some (.int a2), some (.int a3), some (.int a4), some (.long a5), none, some (.int q3), some (.int q6), some (.int x10), some (.int q13), some (.int q16), some (.int x19), some (.long x27), none], [.int q3, .int q31, .int (a2 + (1 : Int32)), .ref 23], M30)) rfl ?_
                        refine pm_ijn (fun (g : Int32 → pm_M → Option (pm_M)) => ∀ (q34 : Int32) (M33 : pm_M), pm_Im none (pm_Ev (k + 3)) pm_T23 none pm_rV (g q34 M33) (221, [some (.ref 23), some (.int a2), some (.int a3), some (.int a4), some (.long a5), none, some (.int q3), some (.int q6), some (.int x10), some (.int q13), some (.int q16), some (.int x19), some (.long x27), none], [.int q34, .int q31, .int (a2 + (1 : Int32)), .ref 23], M33)) (fun (q34 : Int32) (M33 : pm_M) => ?_) (fun j32 hj32 => ?_)
                        · show pm_Im none (pm_Ev (k + 3)) pm_T23 none pm_rV _ (221, [some (.ref 23), some (.int a2), some (.int a3), some (.int a4), some (.long a5), none, some (.int q3), some (.int q6), some (.int x10), some (.int q13), some (.int q16), some (.int x19), some (.long x27), none], [.int q34, .int q31, .int (a2 + (1 : Int32)), .ref 23], M33)
                          refine pm_irun 1 (σ' := (223, [some (.ref 23), some (.int a2), some (.int a3), some (.int a4), some (.long a5), none, some (.int q3), some (.int q6), some (.int x10), some (.int q13), some (.int q16), some (.int x19), some (.long x27), none], [.long x27, .int q34, .int q31, .int (a2 + (1 : Int32)), .ref 23], M33)) rfl ?_
                          refine pm_icV (as := [.ref 23, .int (a2 + (1 : Int32)), .int q31, .int q34, .long x27]) (rest := []) rfl rfl rfl rfl (Nat.le_of_ble_eq_true rfl) rfl (fun r h => ih (a2 + (1 : Int32)) q31 q34 x27 M33 r h) (fun M35 => ?_)
                          show pm_Im _ _ _ _ _ _ (226, [some (.ref 23), some (.int a2), some (.int a3), some (.int a4), some (.long a5), none, some (.int q3), some (.int q6), some (.int x10), some (.int q13), some (.int q16), some (.int x19), some (.long x27), none], [], M35)
                          refine pm_irun 1 (σ' := (229, [some (.ref 23), some (.int a2), some (.int a3), some (.int a4), some (.long a5), none, some (.int q3), some (.int q6), some (.int x10), some (.int q13), some (.int q16), some (.int (x19 + (-1 : Int32))), some (.long x27), none], [], M35)) rfl ?_
                          refine pm_ilt (fun y => (229, [some (.ref 23), some (.int a2), some (.int a3), some (.int a4), some (.long a5), none, some (.int q3), some (.int q6), some (.int x10), some (.int q13), some (.int q16), some (.int y), some (.long x27), none], [], M35)) (fun x36 => ?_)
                          refine pm_irun 1 (σ' := (107, [some (.ref 23), some (.int a2), some (.int a3), some (.int a4), some (.long a5), none, some (.int q3), some (.int q6), some (.int x10), some (.int q13), some (.int q16), some (.int x36), some (.long x27), none], [], M35)) rfl ?_
                          refine pm_iwk (al' := [some (.ref 23), some (.int a2), some (.int a3), some (.int a4), some (.long a5), none, some (.int q3), some (.int q6), some (.int x10), some (.int q13), some (.int q16), some (.int x36), none, none]) (pm_wkS (pm_wkS (pm_wkS (pm_wkS (pm_wkS (pm_wkS (pm_wkS (pm_wkS (pm_wkS (pm_wkS (pm_wkS (pm_wkS (pm_wkN (pm_wkS pm_wk0)))))))))))))) ?_
                          exact hg17 _ _
                        refine pm_iite (σ1 := (220, [some (.ref 23), some (.int a2), some (.int a3), some (.int a4), some (.long a5), none, some (.int q3), some (.int q6), some (.int x10), some (.int q13), some (.int q16), some (.int x19), some (.long x27), none], [.int q31, .int (a2 + (1 : Int32)), .ref 23], M30)) (σ2 := (213, [some (.ref 23), some (.int a2), some (.int a3), some (.int a4), some (.long a5), none, some (.int q3), some (.int q6), some (.int x10), some (.int q13), some (.int q16), some (.int x19), some (.long x27), none], [.int q31, .int (a2 + (1 : Int32)), .ref 23], M30)) rfl (fun _ => ?_) (fun _ => ?_)
                        · refine pm_irun 1 (σ' := (221, [some (.ref 23), some (.int a2), some (.int a3), some (.int a4), some (.long a5), none, some (.int q3), some (.int q6), some (.int x10), some (.int q13), some (.int q16), some (.int x19), some (.long x27), none], [.int a4, .int q31, .int (a2 + (1 : Int32)), .ref 23], M30)) rfl ?_
                          exact hj32 _ _
                        · refine pm_irun 4 (σ' := (221, [some (.ref 23), some (.int a2), some (.int a3), some (.int a4), some (.long a5), none, some (.int q3), some (.int q6), some (.int x10), some (.int q13), some (.int q16), some (.int x19), some (.long x27), none], [.int (a4 - x19), .int q31, .int (a2 + (1 : Int32)), .ref 23], M30)) rfl ?_
                          exact hj32 _ _
                      refine pm_iite (σ1 := (204, [some (.ref 23), some (.int a2), some (.int a3), some (.int a4), some (.long a5), none, some (.int q3), some (.int q6), some (.int x10), some (.int q13), some (.int q16), some (.int x19), some (.long x27), none], [.int (a2 + (1 : Int32)), .ref 23], M28)) (σ2 := (200, [some (.ref 23), some (.int a2), some (.int a3), some (.int a4), some (.long a5), none, some (.int q3), some (.int q6), some (.int x10), some (.int q13), some (.int q16), some (.int x19), some (.long x27), none], [.int (a2 + (1 : Int32)), .ref 23], M28)) rfl (fun _ => ?_) (fun _ => ?_)
                      · refine pm_irun 3 (σ' := (208, [some (.ref 23), some (.int a2), some (.int a3), some (.int a4), some (.long a5), none, some (.int q3), some (.int q6), some (.int x10), some (.int q13), some (.int q16), some (.int x19), some (.long x27), none], [.int (a3 - x19), .int (a2 + (1 : Int32)), .ref 23], M28)) rfl ?_
                        exact hj29 _ _
                      · refine pm_irun 2 (σ' := (208, [some (.ref 23), some (.int a2), some (.int a3), some (.int a4), some (.long a5), none, some (.int q3), some (.int q6), some (.int x10), some (.int q13), some (.int q16), some (.int x19), some (.long x27), none], [.int a3, .int (a2 + (1 : Int32)), .ref 23], M28)) rfl ?_
                        exact hj29 _ _
                    · refine pm_irun 2 (σ' := (229, [some (.ref 23), some (.int a2), some (.int a3), some (.int a4), some (.long a5), none, some (.int q3), some (.int q6), some (.int x10), some (.int q13), some (.int q16), some (.int (x19 + (-1 : Int32))), some (.long x27), none], [], M26)) rfl ?_
                      refine pm_ilt (fun y => (229, [some (.ref 23), some (.int a2), some (.int a3), some (.int a4), some (.long a5), none, some (.int q3), some (.int q6), some (.int x10), some (.int q13), some (.int q16), some (.int y), some (.long x27), none], [], M26)) (fun x37 => ?_)
                      refine pm_irun 1 (σ' := (107, [some (.ref 23), some (.int a2), some (.int a3), some (.int a4), some (.long a5), none, some (.int q3), some (.int q6), some (.int x10), some (.int q13), some (.int q16), some (.int x37), some (.long x27), none], [], M26)) rfl ?_
                      refine pm_iwk (al' := [some (.ref 23), some (.int a2), some (.int a3), some (.int a4), some (.long a5), none, some (.int q3), some (.int q6), some (.int x10), some (.int q13), some (.int q16), some (.int x37), none, none]) (pm_wkS (pm_wkS (pm_wkS (pm_wkS (pm_wkS (pm_wkS (pm_wkS (pm_wkS (pm_wkS (pm_wkS (pm_wkS (pm_wkS (pm_wkN (pm_wkS pm_wk0)))))))))))))) ?_
                      exact hg17 _ _
                  refine pm_iite (σ1 := (172, [some (.ref 23), some (.int a2), some (.int a3), some (.int a4), some (.long a5), none, some (.int q3), some (.int q6), some (.int x10), some (.int q13), some (.int q16), some (.int x19), some (.long x24), none], [], M22)) (σ2 := (144, [some (.ref 23), some (.int a2), some (.int a3), some (.int a4), some (.long a5), none, some (.int q3), some (.int q6), some (.int x10), some (.int q13), some (.int q16), some (.int x19), some (.long x24), none], [], M22)) rfl (fun _ => ?_) (fun _ => ?_)
                  · exact hj25 _ _
                  · refine pm_irun 3 (σ' := (150, [some (.ref 23), some (.int a2), some (.int a3), some (.int a4), some (.long a5), none, some (.int q3), some (.int q6), some (.int x10), some (.int q13), some (.int q16), some (.int x19), some (.long x24), none], [.int q6, .ref 24], M22)) rfl ?_
                    refine pm_igd (σ1 := (151, [some (.ref 23), some (.int a2), some (.int a3), some (.int a4), some (.long a5), none, some (.int q3), some (.int q6), some (.int x10), some (.int q13), some (.int q16), some (.int x19), some (.long x24), none], [.int (M22.1 24 q6.toNatClampNeg)], M22)) rfl (fun _ => ?_)
                    refine pm_iite (σ1 := (172, [some (.ref 23), some (.int a2), some (.int a3), some (.int a4), some (.long a5), none, some (.int q3), some (.int q6), some (.int x10), some (.int q13), some (.int q16), some (.int x19), some (.long x24), none], [], M22)) (σ2 := (154, [some (.ref 23), some (.int a2), some (.int a3), some (.int a4), some (.long a5), none, some (.int q3), some (.int q6), some (.int x10), some (.int q13), some (.int q16), some (.int x19), some (.long x24), none], [], M22)) rfl (fun _ => ?_) (fun _ => ?_)
                    · exact hj25 _ _
                    · refine pm_irun 4 (σ' := (162, [some (.ref 23), some (.int a2), some (.int a3), some (.int a4), some (.long a5), none, some (.int q3), some (.int q6), some (.int x10), some (.int q13), some (.int q16), some (.int x19), some (.long x24), none], [.int q6, .ref 28, .long x24], M22)) rfl ?_
                      refine pm_igd (σ1 := (163, [some (.ref 23), some (.int a2), some (.int a3), some (.int a4), some (.long a5), none, some (.int q3), some (.int q6), some (.int x10), some (.int q13), some (.int q16), some (.int x19), some (.long x24), none], [.int (M22.1 28 q6.toNatClampNeg), .long x24], M22)) rfl (fun _ => ?_)
                      refine pm_irun 2 (σ' := (166, [some (.ref 23), some (.int a2), some (.int a3), some (.int a4), some (.long a5), none, some (.int q3), some (.int q6), some (.int x10), some (.int q13), some (.int q16), some (.int x19), some (.long x24), none], [.int ((M22.1 28 q6.toNatClampNeg) + x19), .long x24], M22)) rfl ?_
                      refine pm_icL (as := [.int ((M22.1 28 q6.toNatClampNeg) + x19)]) (rest := [.long x24]) rfl rfl rfl rfl (Nat.le_of_ble_eq_true rfl) rfl (fun r h => pm_Ev_mono (by omega) (sC_factorial_ok ((M22.1 28 q6.toNatClampNeg) + x19) M22 r h)) (fun v39 M38 => ?_)
                      show pm_Im _ _ _ _ _ _ (169, [some (.ref 23), some (.int a2), some (.int a3), some (.int a4), some (.long a5), none, some (.int q3), some (.int q6), some (.int x10), some (.int q13), some (.int q16), some (.int x19), some (.long x24), none], [.long v39, .long x24], M38)
                      refine pm_irun 2 (σ' := (172, [some (.ref 23), some (.int a2), some (.int a3), some (.int a4), some (.long a5), none, some (.int q3), some (.int q6), some (.int x10), some (.int q13), some (.int q16), some (.int x19), some (.long (x24 * v39)), none], [], M38)) rfl ?_
                      refine pm_ilt (fun y => (172, [some (.ref 23), some (.int a2), some (.int a3), some (.int a4), some (.long a5), none, some (.int q3), some (.int q6), some (.int x10), some (.int q13), some (.int q16), some (.int x19), some (.long y), none], [], M38)) (fun x40 => ?_)
                      exact hj25 _ _
              refine pm_iite (σ1 := (100, [some (.ref 23), some (.int a2), some (.int a3), some (.int a4), some (.long a5), none, some (.int q3), some (.int q6), some (.int x10), some (.int q13), none, none, none, none], [], M12)) (σ2 := (95, [some (.ref 23), some (.int a2), some (.int a3), some (.int a4), some (.long a5), none, some (.int q3), some (.int q6), some (.int x10), some (.int q13), none, none, none, none], [], M12)) rfl (fun _ => ?_) (fun _ => ?_)
              · refine pm_irun 1 (σ' := (101, [some (.ref 23), some (.int a2), some (.int a3), some (.int a4), some (.long a5), none, some (.int q3), some (.int q6), some (.int x10), some (.int q13), none, none, none, none], [.int (0 : Int32)], M12)) rfl ?_
                exact hj14 _ _
              · refine pm_irun 2 (σ' := (101, [some (.ref 23), some (.int a2), some (.int a3), some (.int a4), some (.long a5), none, some (.int q3), some (.int q6), some (.int x10), some (.int q13), none, none, none, none], [.int q13], M12)) rfl ?_
                exact hj14 _ _
            refine pm_iite (σ1 := (81, [some (.ref 23), some (.int a2), some (.int a3), some (.int a4), some (.long a5), none, some (.int q3), some (.int q6), some (.int x10), none, none, none, none, none], [], M8)) (σ2 := (77, [some (.ref 23), some (.int a2), some (.int a3), some (.int a4), some (.long a5), none, some (.int q3), some (.int q6), some (.int x10), none, none, none, none, none], [], M8)) rfl (fun _ => ?_) (fun _ => ?_)
            · refine pm_irun 1 (σ' := (82, [some (.ref 23), some (.int a2), some (.int a3), some (.int a4), some (.long a5), none, some (.int q3), some (.int q6), some (.int x10), none, none, none, none, none], [.int a3], M8)) rfl ?_
              exact hj11 _ _
            · refine pm_irun 2 (σ' := (82, [some (.ref 23), some (.int a2), some (.int a3), some (.int a4), some (.long a5), none, some (.int q3), some (.int q6), some (.int x10), none, none, none, none, none], [.int a4], M8)) rfl ?_
              exact hj11 _ _
          refine pm_iite (σ1 := (66, [some (.ref 23), some (.int a2), some (.int a3), some (.int a4), some (.long a5), none, some (.int q3), some (.int q6), none, none, none, none, none, none], [], M5)) (σ2 := (62, [some (.ref 23), some (.int a2), some (.int a3), some (.int a4), some (.long a5), none, some (.int q3), some (.int q6), none, none, none, none, none, none], [], M5)) rfl (fun _ => ?_) (fun _ => ?_)
          · refine pm_irun 1 (σ' := (67, [some (.ref 23), some (.int a2), some (.int a3), some (.int a4), some (.long a5), none, some (.int q3), some (.int q6), none, none, none, none, none, none], [.int (0 : Int32)], M5)) rfl ?_
            exact hj7 _ _
          · refine pm_irun 2 (σ' := (67, [some (.ref 23), some (.int a2), some (.int a3), some (.int a4), some (.long a5), none, some (.int q3), some (.int q6), none, none, none, none, none, none], [.int (5 : Int32)], M5)) rfl ?_
            exact hj7 _ _
        refine pm_iite (σ1 := (54, [some (.ref 23), some (.int a2), some (.int a3), some (.int a4), some (.long a5), none, some (.int q3), none, none, none, none, none, none, none], [], M2)) (σ2 := (45, [some (.ref 23), some (.int a2), some (.int a3), some (.int a4), some (.long a5), none, some (.int q3), none, none, none, none, none, none, none], [], M2)) rfl (fun _ => ?_) (fun _ => ?_)
        · refine pm_irun 1 (σ' := (55, [some (.ref 23), some (.int a2), some (.int a3), some (.int a4), some (.long a5), none, some (.int q3), none, none, none, none, none, none, none], [.int a2], M2)) rfl ?_
          exact hj4 _ _
        · refine pm_irun 5 (σ' := (55, [some (.ref 23), some (.int a2), some (.int a3), some (.int a4), some (.long a5), none, some (.int q3), none, none, none, none, none, none, none], [.int (a2 - (M2.1 23 0))], M2)) rfl ?_
          exact hj4 _ _
      refine pm_iite (σ1 := (37, [some (.ref 23), some (.int a2), some (.int a3), some (.int a4), some (.long a5), none, none, none, none, none, none, none, none, none], [], M)) (σ2 := (33, [some (.ref 23), some (.int a2), some (.int a3), some (.int a4), some (.long a5), none, none, none, none, none, none, none, none, none], [], M)) rfl (fun _ => ?_) (fun _ => ?_)
      · refine pm_irun 1 (σ' := (38, [some (.ref 23), some (.int a2), some (.int a3), some (.int a4), some (.long a5), none, none, none, none, none, none, none, none, none], [.int (0 : Int32)], M)) rfl ?_
        exact hj1 _ _
      · refine pm_irun 2 (σ' := (38, [some (.ref 23), some (.int a2), some (.int a3), some (.int a4), some (.long a5), none, none, none, none, none, none, none, none, none], [.int (1 : Int32)], M)) rfl ?_
        exact hj1 _ _
    · refine pm_irun 1 (σ' := (11, [some (.ref 23), some (.int a2), some (.int a3), some (.int a4), some (.long a5), none, none, none, none, none, none, none, none, none], [.int a3], M)) rfl ?_
      refine pm_iite (σ1 := (24, [some (.ref 23), some (.int a2), some (.int a3), some (.int a4), some (.long a5), none, none, none, none, none, none, none, none, none], [], M)) (σ2 := (14, [some (.ref 23), some (.int a2), some (.int a3), some (.int a4), some (.long a5), none, none, none, none, none, none, none, none, none], [], M)) rfl (fun _ => ?_) (fun _ => ?_)
      · exact pm_irV rfl rfl
      · refine pm_irun 1 (σ' := (15, [some (.ref 23), some (.int a2), some (.int a3), some (.int a4), some (.long a5), none, none, none, none, none, none, none, none, none], [.int a4], M)) rfl ?_
        refine pm_iite (σ1 := (24, [some (.ref 23), some (.int a2), some (.int a3), some (.int a4), some (.long a5), none, none, none, none, none, none, none, none, none], [], M)) (σ2 := (18, [some (.ref 23), some (.int a2), some (.int a3), some (.int a4), some (.long a5), none, none, none, none, none, none, none, none, none], [], M)) rfl (fun _ => ?_) (fun _ => ?_)
        · exact pm_irV rfl rfl
        · refine pm_irun 2 (σ' := (21, [some (.ref 23), some (.int a2), some (.int a3), some (.int a4), some (.long a5), none, none, none, none, none, none, none, none, none], [.long a5, .ref 23], M)) rfl ?_
          refine pm_icV (as := [.ref 23, .long a5]) (rest := []) rfl rfl rfl rfl (Nat.le_of_ble_eq_true rfl) rfl (fun r h => pm_Ev_mono (by omega) (sStates_takeIfGreater_ok a5 M r h)) (fun M41 => ?_)
          show pm_Im _ _ _ _ _ _ (24, [some (.ref 23), some (.int a2), some (.int a3), some (.int a4), some (.long a5), none, none, none, none, none, none, none, none, none], [], M41)
          exact pm_irV rfl rfl
def sStates_likeliestAt (a1 : Int32) (a2 : Int32) (M : pm_M) : Option (Int32 × pm_M) := pm_jn (fun (M2 : pm_M) => if pm_in ((a1 * (5 : Int32)) + a2) 10 then (some ((M2.1 29 ((a1 * (5 : Int32)) + a2).toNatClampNeg), M2)) else none) fun (j1 : pm_M → Option (Int32 × pm_M)) => if ¬ (M.1 23 3) = 0 then (j1 M) else (pm_lt (pm_sL M 23 4 (0 : Int64)) fun M3 => pm_bv (sJArr_fillI_29 (0 : Int32) M3) fun M4 => pm_bv (sStates_tryPlace 12 (0 : Int32) (M4.1 23 1) (M4.1 23 2) (1 : Int64) M4) fun M5 => pm_lt (pm_sI M5 23 3 (1 : Int32)) fun M6 => j1 M6)
abbrev I_States_likeliestAt (sh : Option (Int32 × pm_M)) (σ : pm_St) : Prop := pm_Im none (pm_Ev 15) pm_T22 (some .int) pm_rI sh σ
set_option maxHeartbeats 4000000 in
set_option maxRecDepth 100000 in
theorem sStates_likeliestAt_ok (a1 : Int32) (a2 : Int32) (M : pm_M) : ∀ r, sStates_likeliestAt a1 a2 M = some r → pm_Ev 16 22 [.ref 23, .int a1, .int a2] M (pm_rI r).1 (pm_rI r).2 := by
  refine pm_meth (al := [some (.ref 23), some (.int a1), some (.int a2)]) rfl rfl rfl rfl rfl ?_
  unfold sStates_likeliestAt
  show I_States_likeliestAt _ (0, [some (.ref 23), some (.int a1), some (.int a2)], [], M)
  refine pm_irun 2 (σ' := (4, [some (.ref 23), some (.int a1), some (.int a2)], [.int (M.1 23 3)], M)) rfl ?_
  refine pm_ijn (fun (g : pm_M → Option (Int32 × pm_M)) => ∀ (M2 : pm_M), I_States_likeliestAt (g M2) (39, [some (.ref 23), some (.int a1), some (.int a2)], [], M2)) (fun (M2 : pm_M) => ?_) (fun j1 hj1 => ?_)
  · show I_States_likeliestAt _ (39, [some (.ref 23), some (.int a1), some (.int a2)], [], M2)
    refine pm_irun 7 (σ' := (48, [some (.ref 23), some (.int a1), some (.int a2)], [.int ((a1 * (5 : Int32)) + a2), .ref 29], M2)) rfl ?_
    refine pm_igd (σ1 := (49, [some (.ref 23), some (.int a1), some (.int a2)], [.int (M2.1 29 ((a1 * (5 : Int32)) + a2).toNatClampNeg)], M2)) rfl (fun _ => ?_)
    exact pm_irI rfl rfl
  refine pm_iite (σ1 := (39, [some (.ref 23), some (.int a1), some (.int a2)], [], M)) (σ2 := (7, [some (.ref 23), some (.int a1), some (.int a2)], [], M)) rfl (fun _ => ?_) (fun _ => ?_)
  · exact hj1 _
  · refine pm_irun 2 (σ' := (9, [some (.ref 23), some (.int a1), some (.int a2)], [.long (0 : Int64), .ref 23], M)) rfl ?_
    refine pm_irun 1 (σ' := (12, [some (.ref 23), some (.int a1), some (.int a2)], [], (pm_sL M 23 4 (0 : Int64)))) rfl ?_
    refine pm_ilt (fun y => (12, [some (.ref 23), some (.int a1), some (.int a2)], [], y)) (fun M3 => ?_)
    refine pm_irun 3 (σ' := (17, [some (.ref 23), some (.int a1), some (.int a2)], [.int (0 : Int32), .ref 29], M3)) rfl ?_
    refine pm_icV (as := [.ref 29, .int (0 : Int32)]) (rest := []) rfl rfl rfl rfl (Nat.le_of_ble_eq_true rfl) rfl (fun r h => pm_Ev_mono (Nat.le_of_ble_eq_true rfl) (sJArr_fillI_29_ok (0 : Int32) M3 r h)) (fun M4 => ?_)
    show pm_Im _ _ _ _ _ _ (20, [some (.ref 23), some (.int a1), some (.int a2)], [], M4)
    refine pm_irun 7 (σ' := (31, [some (.ref 23), some (.int a1), some (.int a2)], [.long (1 : Int64), .int (M4.1 23 2), .int (M4.1 23 1), .int (0 : Int32), .ref 23], M4)) rfl ?_
    refine pm_icV (as := [.ref 23, .int (0 : Int32), .int (M4.1 23 1), .int (M4.1 23 2), .long (1 : Int64)]) (rest := []) rfl rfl rfl rfl (Nat.le_of_ble_eq_true rfl) rfl (fun r h => pm_Ev_mono (Nat.le_of_ble_eq_true rfl) (sStates_tryPlace_ok 12 (0 : Int32) (M4.1 23 1) (M4.1 23 2) (1 : Int64) M4 r h)) (fun M5 => ?_)
    show pm_Im _ _ _ _ _ _ (34, [some (.ref 23), some (.int a1), some (.int a2)], [], M5)
    refine pm_irun 2 (σ' := (36, [some (.ref 23), some (.int a1), some (.int a2)], [.int (1 : Int32), .ref 23], M5)) rfl ?_
    refine pm_igt (c := (1 : Int32) = 0 ∨ (1 : Int32) = 1) (σ1 := (39, [some (.ref 23), some (.int a1), some (.int a2)], [], (pm_sI M5 23 3 (1 : Int32)))) (by decide) rfl ?_
    refine pm_ilt (fun y => (39, [some (.ref 23), some (.int a1), some (.int a2)], [], y)) (fun M6 => ?_)
    exact hj1 _
def sC_likely (a1 : Int32) (a2 : Int32) (M : pm_M) : Option (Int32 × pm_M) := pm_bd (sC_isClass a1 M) fun v2 M1 => if v2 = 0 then (some ((-2 : Int32), M1)) else (pm_bd (sNet_hasStation_1 a2 M1) fun v4 M3 => if ¬ v4 = 0 then (pm_bd (sTours_isSound M3) fun v6 M5 => if ¬ v6 = 0 then (pm_bd (sStates_likeliestAt a1 a2 M5) fun v8 M7 => some (v8, M7)) else (some ((-3 : Int32), M5))) else (some ((-2 : Int32), M3)))
abbrev I_C_likely (sh : Option (Int32 × pm_M)) (σ : pm_St) : Prop := pm_Im none (pm_Ev 16) pm_T73 (some .int) pm_rI sh σ
set_option maxHeartbeats 4000000 in
set_option maxRecDepth 100000 in
theorem sC_likely_ok (a1 : Int32) (a2 : Int32) (M : pm_M) : ∀ r, sC_likely a1 a2 M = some r → pm_Ev 17 73 [.ref 0, .int a1, .int a2] M (pm_rI r).1 (pm_rI r).2 := by
  refine pm_meth (al := [some (.ref 0), some (.int a1), some (.int a2)]) rfl rfl rfl rfl rfl ?_
  unfold sC_likely
  show I_C_likely _ (0, [some (.ref 0), some (.int a1), some (.int a2)], [], M)
  refine pm_irun 1 (σ' := (1, [some (.ref 0), some (.int a1), some (.int a2)], [.int a1], M)) rfl ?_
  refine pm_icI (as := [.int a1]) (rest := []) rfl rfl rfl rfl (Nat.le_of_ble_eq_true rfl) rfl (fun r h => pm_Ev_mono (Nat.le_of_ble_eq_true rfl) (sC_isClass_ok a1 M r h)) (fun v2 M1 => ?_)
  show pm_Im _ _ _ _ _ _ (4, [some (.ref 0), some (.int a1), some (.int a2)], [.int v2], M1)
  refine pm_iite (σ1 := (18, [some (.ref 0), some (.int a1), some (.int a2)], [], M1)) (σ2 := (7, [some (.ref 0), some (.int a1), some (.int a2)], [], M1)) rfl (fun _ => ?_) (fun _ => ?_)
  · refine pm_irun 1 (σ' := (20, [some (.ref 0), some (.int a1), some (.int a2)], [.int (-2 : Int32)], M1)) rfl ?_
    exact pm_irI rfl rfl
  · refine pm_irun 3 (σ' := (12, [some (.ref 0), some (.int a1), some (.int a2)], [.int a2, .ref 1], M1)) rfl ?_
    refine pm_icI (as := [.ref 1, .int a2]) (rest := []) rfl rfl rfl rfl (Nat.le_of_ble_eq_true rfl) rfl (fun r h => pm_Ev_mono (Nat.le_of_ble_eq_true rfl) (sNet_hasStation_1_ok a2 M1 r h)) (fun v4 M3 => ?_)
    show pm_Im _ _ _ _ _ _ (15, [some (.ref 0), some (.int a1), some (.int a2)], [.int v4], M3)
    refine pm_iite (σ1 := (21, [some (.ref 0), some (.int a1), some (.int a2)], [], M3)) (σ2 := (18, [some (.ref 0), some (.int a1), some (.int a2)], [], M3)) rfl (fun _ => ?_) (fun _ => ?_)
    · refine pm_irun 2 (σ' := (25, [some (.ref 0), some (.int a1), some (.int a2)], [.ref 15], M3)) rfl ?_
      refine pm_icI (as := [.ref 15]) (rest := []) rfl rfl rfl rfl (Nat.le_of_ble_eq_true rfl) rfl (fun r h => pm_Ev_mono (Nat.le_of_ble_eq_true rfl) (sTours_isSound_ok M3 r h)) (fun v6 M5 => ?_)
      show pm_Im _ _ _ _ _ _ (28, [some (.ref 0), some (.int a1), some (.int a2)], [.int v6], M5)
      refine pm_iite (σ1 := (34, [some (.ref 0), some (.int a1), some (.int a2)], [], M5)) (σ2 := (31, [some (.ref 0), some (.int a1), some (.int a2)], [], M5)) rfl (fun _ => ?_) (fun _ => ?_)
      · refine pm_irun 4 (σ' := (40, [some (.ref 0), some (.int a1), some (.int a2)], [.int a2, .int a1, .ref 23], M5)) rfl ?_
        refine pm_icI (as := [.ref 23, .int a1, .int a2]) (rest := []) rfl rfl rfl rfl (Nat.le_of_ble_eq_true rfl) rfl (fun r h => pm_Ev_mono (Nat.le_of_ble_eq_true rfl) (sStates_likeliestAt_ok a1 a2 M5 r h)) (fun v8 M7 => ?_)
        show pm_Im _ _ _ _ _ _ (43, [some (.ref 0), some (.int a1), some (.int a2)], [.int v8], M7)
        exact pm_irI rfl rfl
      · refine pm_irun 1 (σ' := (33, [some (.ref 0), some (.int a1), some (.int a2)], [.int (-3 : Int32)], M5)) rfl ?_
        exact pm_irI rfl rfl
    · refine pm_irun 1 (σ' := (20, [some (.ref 0), some (.int a1), some (.int a2)], [.int (-2 : Int32)], M3)) rfl ?_
      exact pm_irI rfl rfl
def sR_lays (a1 : Int32) (a2 : Int32) (a3 : Int32) (M : pm_M) : Option (pm_M) := if pm_in (((5 : Int32) * a1) + a2) 10 then (pm_lt (pm_sI M 64 (((5 : Int32) * a1) + a2).toNatClampNeg a3) fun M1 => some M1) else none
abbrev I_R_lays (sh : Option (pm_M)) (σ : pm_St) : Prop := pm_Im none (pm_Ev 0) pm_T162 none pm_rV sh σ
set_option maxHeartbeats 4000000 in
set_option maxRecDepth 100000 in
theorem sR_lays_ok (a1 : Int32) (a2 : Int32) (a3 : Int32) (M : pm_M) : ∀ r, sR_lays a1 a2 a3 M = some r → pm_Ev 1 162 [.ref 49, .int a1, .int a2, .int a3] M (pm_rV r).1 (pm_rV r).2 := by
  refine pm_meth (al := [some (.ref 49), some (.int a1), some (.int a2), some (.int a3)]) rfl rfl rfl rfl rfl ?_
  unfold sR_lays
  show I_R_lays _ (0, [some (.ref 49), some (.int a1), some (.int a2), some (.int a3)], [], M)
  refine pm_irun 8 (σ' := (10, [some (.ref 49), some (.int a1), some (.int a2), some (.int a3)], [.int a3, .int (((5 : Int32) * a1) + a2), .ref 64], M)) rfl ?_
  refine pm_igd (σ1 := (11, [some (.ref 49), some (.int a1), some (.int a2), some (.int a3)], [], (pm_sI M 64 (((5 : Int32) * a1) + a2).toNatClampNeg a3))) rfl (fun _ => ?_)
  refine pm_ilt (fun y => (11, [some (.ref 49), some (.int a1), some (.int a2), some (.int a3)], [], y)) (fun M1 => ?_)
  exact pm_irV rfl rfl
def sR_walk : Nat → Int32 → Int32 → pm_M → Option (pm_M)
  | 0, _, _, _ => none
  | k + 1, a1, a2, M => if ¬ (M.1 49 1) = 0 then (pm_lt ((a1 / (M.1 49 1))) fun x1 => if ¬ (M.1 49 1) = 0 then (pm_lt ((a1 - a1 / (M.1 49 1) * (M.1 49 1))) fun x2 => if ¬ x2 = ((M.1 49 1) - (1 : Int32)) then (if pm_in (((5 : Int32) * x1) + x2) 10 then (pm_jn (fun (q5 : Int32) (M4 : pm_M) => pm_loop (fun _ _ => none) (fun (g6 : Int32 → pm_M → Option (pm_M)) x8 M7 => if x8 < 0 then (some M7) else (pm_bv (sR_lays x1 x2 x8 M7) fun M9 => pm_bv (sR_walk k (a1 + (1 : Int32)) (a2 - x8) M9) fun M10 => pm_lt ((x8 + (-1 : Int32))) fun x11 => g6 x11 M10)) 1000000 q5 M4) fun (j3 : Int32 → pm_M → Option (pm_M)) => if ¬ (lg_cmp (M.2 60 (((5 : Int32) * x1) + x2).toNatClampNeg) (0 : Int64)) = 0 then (j3 a2 M) else (j3 (0 : Int32) M)) else none) else (pm_bv (sR_lays x1 x2 a2 M) fun M12 => pm_jn (fun (M14 : pm_M) => if ¬ x1 = 0 then (pm_bd (sR_weight M14) fun v16 M15 => if (lg_cmp v16 (M15.2 49 20)) ≤ 0 then (some M15) else (pm_bd (sR_weight M15) fun v18 M17 => pm_lt (pm_sL M17 49 20 v18) fun M19 => pm_loop (fun _ _ => none) (fun (g20 : Int32 → pm_M → Option (pm_M)) x22 M21 => if (10 : Int32) ≤ x22 then (some M21) else (if pm_in x22 10 then (if pm_in x22 10 then (pm_lt (pm_sI M21 65 x22.toNatClampNeg ((M21.1 64 x22.toNatClampNeg))) fun M23 => pm_lt ((x22 + (1 : Int32))) fun x24 => g20 x24 M23) else none) else none)) 1000000 (0 : Int32) M19)) else (pm_bv (sR_walk k (M14.1 49 1) (M14.1 53 1) M14) fun M25 => some M25)) fun (j13 : pm_M → Option (pm_M)) => if a2 ≤ 0 then (j13 M12) else (if pm_in (((5 : Int32) * x1) + x2) 10 then (if ¬ (lg_cmp (M12.2 60 (((5 : Int32) * x1) + x2).toNatClampNeg) (0 : Int64)) = 0 then (j13 M12) else (some M12)) else none))) else none) else none
set_option maxHeartbeats 4000000 in
set_option maxRecDepth 100000 in
theorem sR_walk_ok : ∀ (k : Nat) (a1 : Int32) (a2 : Int32) (M : pm_M), ∀ r, sR_walk k a1 a2 M = some r → pm_Ev (k + 5) 161 [.ref 49, .int a1, .int a2] M (pm_rV r).1 (pm_rV r).2
  | 0, _, _, _, r, h => by cases h
  | k + 1, a1, a2, M, r, h => by
    have ih := sR_walk_ok k
    refine pm_meth (d := k + 5) (T := pm_T161) (ret := none) (rt := pm_rV) (sh := sR_walk (k + 1) a1 a2 M) (al := [some (.ref 49), some (.int a1), some (.int a2), none, none, none]) rfl rfl rfl rfl rfl ?_ r h
    show pm_Im _ _ _ _ _ (if ¬ (M.1 49 1) = 0 then (pm_lt ((a1 / (M.1 49 1))) fun x1 => if ¬ (M.1 49 1) = 0 then (pm_lt ((a1 - a1 / (M.1 49 1) * (M.1 49 1))) fun x2 => if ¬ x2 = ((M.1 49 1) - (1 : Int32)) then (if pm_in (((5 : Int32) * x1) + x2) 10 then (pm_jn (fun (q5 : Int32) (M4 : pm_M) => pm_loop (fun _ _ => none) (fun (g6 : Int32 → pm_M → Option (pm_M)) x8 M7 => if x8 < 0 then (some M7) else (pm_bv (sR_lays x1 x2 x8 M7) fun M9 => pm_bv (sR_walk k (a1 + (1 : Int32)) (a2 - x8) M9) fun M10 => pm_lt ((x8 + (-1 : Int32))) fun x11 => g6 x11 M10)) 1000000 q5 M4) fun (j3 : Int32 → pm_M → Option (pm_M)) => if ¬ (lg_cmp (M.2 60 (((5 : Int32) * x1) + x2).toNatClampNeg) (0 : Int64)) = 0 then (j3 a2 M) else (j3 (0 : Int32) M)) else none) else (pm_bv (sR_lays x1 x2 a2 M) fun M12 => pm_jn (fun (M14 : pm_M) => if ¬ x1 = 0 then (pm_bd (sR_weight M14) fun v16 M15 => if (lg_cmp v16 (M15.2 49 20)) ≤ 0 then (some M15) else (pm_bd (sR_weight M15) fun v18 M17 => pm_lt (pm_sL M17 49 20 v18) fun M19 => pm_loop (fun _ _ => none) (fun (g20 : Int32 → pm_M → Option (pm_M)) x22 M21 => if (10 : Int32) ≤ x22 then (some M21) else (if pm_in x22 10 then (if pm_in x22 10 then (pm_lt (pm_sI M21 65 x22.toNatClampNeg ((M21.1 64 x22.toNatClampNeg))) fun M23 => pm_lt ((x22 + (1 : Int32))) fun x24 => g20 x24 M23) else none) else none)) 1000000 (0 : Int32) M19)) else (pm_bv (sR_walk k (M14.1 49 1) (M14.1 53 1) M14) fun M25 => some M25)) fun (j13 : pm_M → Option (pm_M)) => if a2 ≤ 0 then (j13 M12) else (if pm_in (((5 : Int32) * x1) + x2) 10 then (if ¬ (lg_cmp (M12.2 60 (((5 : Int32) * x1) + x2).toNatClampNeg) (0 : Int64)) = 0 then (j13 M12) else (some M12)) else none))) else none) else none) _
    refine pm_irun 3 (σ' := (5, [some (.ref 49), some (.int a1), some (.int a2), none, none, none], [.int (M.1 49 1), .int a1], M)) rfl ?_
    refine pm_igd (σ1 := (6, [some (.ref 49), some (.int a1), some (.int a2), none, none, none], [.int (a1 / (M.1 49 1))], M)) rfl (fun _ => ?_)
    refine pm_irun 1 (σ' := (7, [some (.ref 49), some (.int a1), some (.int a2), some (.int (a1 / (M.1 49 1))), none, none], [], M)) rfl ?_
    refine pm_ilt (fun y => (7, [some (.ref 49), some (.int a1), some (.int a2), some (.int y), none, none], [], M)) (fun x1 => ?_)
    refine pm_irun 3 (σ' := (12, [some (.ref 49), some (.int a1), some (.int a2), some (.int x1), none, none], [.int (M.1 49 1), .int a1], M)) rfl ?_
    refine pm_igd (σ1 := (13, [some (.ref 49), some (.int a1), some (.int a2), some (.int x1), none, none], [.int (a1 - a1 / (M.1 49 1) * (M.1 49 1))], M)) rfl (fun _ => ?_)
    refine pm_irun 1 (σ' := (15, [some (.ref 49), some (.int a1), some (.int a2), some (.int x1), some (.int (a1 - a1 / (M.1 49 1) * (M.1 49 1))), none], [], M)) rfl ?_
    refine pm_ilt (fun y => (15, [some (.ref 49), some (.int a1), some (.int a2), some (.int x1), some (.int y), none], [], M)) (fun x2 => ?_)
    refine pm_irun 5 (σ' := (23, [some (.ref 49), some (.int a1), some (.int a2), some (.int x1), some (.int x2), none], [.int ((M.1 49 1) - (1 : Int32)), .int x2], M)) rfl ?_
    refine pm_iite (σ1 := (127, [some (.ref 49), some (.int a1), some (.int a2), some (.int x1), some (.int x2), none], [], M)) (σ2 := (26, [some (.ref 49), some (.int a1), some (.int a2), some (.int x1), some (.int x2), none], [], M)) rfl (fun _ => ?_) (fun _ => ?_)
    · refine pm_irun 7 (σ' := (137, [some (.ref 49), some (.int a1), some (.int a2), some (.int x1), some (.int x2), none], [.int (((5 : Int32) * x1) + x2), .ref 60], M)) rfl ?_
      refine pm_igd (σ1 := (138, [some (.ref 49), some (.int a1), some (.int a2), some (.int x1), some (.int x2), none], [.long (M.2 60 (((5 : Int32) * x1) + x2).toNatClampNeg)], M)) rfl (fun _ => ?_)
      refine pm_irun 2 (σ' := (140, [some (.ref 49), some (.int a1), some (.int a2), some (.int x1), some (.int x2), none], [.int (lg_cmp (M.2 60 (((5 : Int32) * x1) + x2).toNatClampNeg) (0 : Int64))], M)) rfl ?_
      refine pm_ijn (fun (g : Int32 → pm_M → Option (pm_M)) => ∀ (q5 : Int32) (M4 : pm_M), pm_Im none (pm_Ev (k + 5)) pm_T161 none pm_rV (g q5 M4) (148, [some (.ref 49), some (.int a1), some (.int a2), some (.int x1), some (.int x2), none], [.int q5], M4)) (fun (q5 : Int32) (M4 : pm_M) => ?_) (fun j3 hj3 => ?_)
      · show pm_Im none (pm_Ev (k + 5)) pm_T161 none pm_rV _ (148, [some (.ref 49), some (.int a1), some (.int a2), some (.int x1), some (.int x2), none], [.int q5], M4)
        refine pm_irun 1 (σ' := (150, [some (.ref 49), some (.int a1), some (.int a2), some (.int x1), some (.int x2), some (.int q5)], [], M4)) rfl ?_
        refine pm_iloop (fun (g : Int32 → pm_M → Option (pm_M)) => ∀ (x8 : Int32) (M7 : pm_M), pm_Im none (pm_Ev (k + 5)) pm_T161 none pm_rV (g x8 M7) (150, [some (.ref 49), some (.int a1), some (.int a2), some (.int x1), some (.int x2), some (.int x8)], [], M7)) (fun _ _ => pm_inone) (fun g6 hg6 x8 M7 => ?_) 1000000 _ _
        show pm_Im none (pm_Ev (k + 5)) pm_T161 none pm_rV _ (150, [some (.ref 49), some (.int a1), some (.int a2), some (.int x1), some (.int x2), some (.int x8)], [], M7)
        refine pm_irun 1 (σ' := (152, [some (.ref 49), some (.int a1), some (.int a2), some (.int x1), some (.int x2), some (.int x8)], [.int x8], M7)) rfl ?_
        refine pm_iite (σ1 := (181, [some (.ref 49), some (.int a1), some (.int a2), some (.int x1), some (.int x2), some (.int x8)], [], M7)) (σ2 := (155, [some (.ref 49), some (.int a1), some (.int a2), some (.int x1), some (.int x2), some (.int x8)], [], M7)) rfl (fun _ => ?_) (fun _ => ?_)
        · exact pm_irV rfl rfl
        · refine pm_irun 4 (σ' := (161, [some (.ref 49), some (.int a1), some (.int a2), some (.int x1), some (.int x2), some (.int x8)], [.int x8, .int x2, .int x1, .ref 49], M7)) rfl ?_
          refine pm_icV (as := [.ref 49, .int x1, .int x2, .int x8]) (rest := []) rfl rfl rfl rfl (Nat.le_of_ble_eq_true rfl) rfl (fun r h => pm_Ev_mono (by omega) (sR_lays_ok x1 x2 x8 M7 r h)) (fun M9 => ?_)
          show pm_Im _ _ _ _ _ _ (164, [some (.ref 49), some (.int a1), some (.int a2), some (.int x1), some (.int x2), some (.int x8)], [], M9)
          refine pm_irun 7 (σ' := (172, [some (.ref 49), some (.int a1), some (.int a2), some (.int x1), some (.int x2), some (.int x8)], [.int (a2 - x8), .int (a1 + (1 : Int32)), .ref 49], M9)) rfl ?_
          refine pm_icV (as := [.ref 49, .int (a1 + (1 : Int32)), .int (a2 - x8)]) (rest := []) rfl rfl rfl rfl (Nat.le_of_ble_eq_true rfl) rfl (fun r h => ih (a1 + (1 : Int32)) (a2 - x8) M9 r h) (fun M10 => ?_)
          show pm_Im _ _ _ _ _ _ (175, [some (.ref 49), some (.int a1), some (.int a2), some (.int x1), some (.int x2), some (.int x8)], [], M10)
          refine pm_irun 1 (σ' := (178, [some (.ref 49), some (.int a1), some (.int a2), some (.int x1), some (.int x2), some (.int (x8 + (-1 : Int32)))], [], M10)) rfl ?_
          refine pm_ilt (fun y => (178, [some (.ref 49), some (.int a1), some (.int a2), some (.int x1), some (.int x2), some (.int y)], [], M10)) (fun x11 => ?_)
          refine pm_irun 1 (σ' := (150, [some (.ref 49), some (.int a1), some (.int a2), some (.int x1), some (.int x2), some (.int x11)], [], M10)) rfl ?_
          exact hg6 _ _
      refine pm_iite (σ1 := (147, [some (.ref 49), some (.int a1), some (.int a2), some (.int x1), some (.int x2), none], [], M)) (σ2 := (143, [some (.ref 49), some (.int a1), some (.int a2), some (.int x1), some (.int x2), none], [], M)) rfl (fun _ => ?_) (fun _ => ?_)
      · refine pm_irun 1 (σ' := (148, [some (.ref 49), some (.int a1), some (.int a2), some (.int x1), some (.int x2), none], [.int a2], M)) rfl ?_
        exact hj3 _ _
      · refine pm_irun 2 (σ' := (148, [some (.ref 49), some (.int a1), some (.int a2), some (.int x1), some (.int x2), none], [.int (0 : Int32)], M)) rfl ?_
        exact hj3 _ _
    · refine pm_irun 4 (σ' := (31, [some (.ref 49), some (.int a1), some (.int a2), some (.int x1), some (.int x2), none], [.int a2, .int x2, .int x1, .ref 49], M)) rfl ?_
      refine pm_icV (as := [.ref 49, .int x1, .int x2, .int a2]) (rest := []) rfl rfl rfl rfl (Nat.le_of_ble_eq_true rfl) rfl (fun r h => pm_Ev_mono (by omega) (sR_lays_ok x1 x2 a2 M r h)) (fun M12 => ?_)
      show pm_Im _ _ _ _ _ _ (34, [some (.ref 49), some (.int a1), some (.int a2), some (.int x1), some (.int x2), none], [], M12)
      refine pm_irun 1 (σ' := (35, [some (.ref 49), some (.int a1), some (.int a2), some (.int x1), some (.int x2), none], [.int a2], M12)) rfl ?_
      refine pm_ijn (fun (g : pm_M → Option (pm_M)) => ∀ (M14 : pm_M), pm_Im none (pm_Ev (k + 5)) pm_T161 none pm_rV (g M14) (55, [some (.ref 49), none, none, some (.int x1), none, none], [], M14)) (fun (M14 : pm_M) => ?_) (fun j13 hj13 => ?_)
      · show pm_Im none (pm_Ev (k + 5)) pm_T161 none pm_rV _ (55, [some (.ref 49), none, none, some (.int x1), none, none], [], M14)
        refine pm_irun 1 (σ' := (56, [some (.ref 49), none, none, some (.int x1), none, none], [.int x1], M14)) rfl ?_
        refine pm_iite (σ1 := (76, [some (.ref 49), none, none, some (.int x1), none, none], [], M14)) (σ2 := (59, [some (.ref 49), none, none, some (.int x1), none, none], [], M14)) rfl (fun _ => ?_) (fun _ => ?_)
        · refine pm_irun 1 (σ' := (77, [some (.ref 49), none, none, some (.int x1), none, none], [.ref 49], M14)) rfl ?_
          refine pm_icL (as := [.ref 49]) (rest := []) rfl rfl rfl rfl (Nat.le_of_ble_eq_true rfl) rfl (fun r h => pm_Ev_mono (by omega) (sR_weight_ok M14 r h)) (fun v16 M15 => ?_)
          show pm_Im _ _ _ _ _ _ (80, [some (.ref 49), none, none, some (.int x1), none, none], [.long v16], M15)
          refine pm_irun 3 (σ' := (85, [some (.ref 49), none, none, some (.int x1), none, none], [.int (lg_cmp v16 (M15.2 49 20))], M15)) rfl ?_
          refine pm_iite (σ1 := (126, [some (.ref 49), none, none, some (.int x1), none, none], [], M15)) (σ2 := (88, [some (.ref 49), none, none, some (.int x1), none, none], [], M15)) rfl (fun _ => ?_) (fun _ => ?_)
          · exact pm_irV rfl rfl
          · refine pm_irun 2 (σ' := (90, [some (.ref 49), none, none, some (.int x1), none, none], [.ref 49, .ref 49], M15)) rfl ?_
            refine pm_icL (as := [.ref 49]) (rest := [.ref 49]) rfl rfl rfl rfl (Nat.le_of_ble_eq_true rfl) rfl (fun r h => pm_Ev_mono (by omega) (sR_weight_ok M15 r h)) (fun v18 M17 => ?_)
            show pm_Im _ _ _ _ _ _ (93, [some (.ref 49), none, none, some (.int x1), none, none], [.long v18, .ref 49], M17)
            refine pm_irun 1 (σ' := (96, [some (.ref 49), none, none, some (.int x1), none, none], [], (pm_sL M17 49 20 v18))) rfl ?_
            refine pm_ilt (fun y => (96, [some (.ref 49), none, none, some (.int x1), none, none], [], y)) (fun M19 => ?_)
            refine pm_irun 2 (σ' := (99, [some (.ref 49), none, none, some (.int x1), none, some (.int (0 : Int32))], [], M19)) rfl ?_
            refine pm_iwk (al' := [some (.ref 49), none, none, none, none, some (.int (0 : Int32))]) (pm_wkS (pm_wkS (pm_wkS (pm_wkN (pm_wkS (pm_wkS pm_wk0)))))) ?_
            refine pm_iloop (fun (g : Int32 → pm_M → Option (pm_M)) => ∀ (x22 : Int32) (M21 : pm_M), pm_Im none (pm_Ev (k + 5)) pm_T161 none pm_rV (g x22 M21) (99, [some (.ref 49), none, none, none, none, some (.int x22)], [], M21)) (fun _ _ => pm_inone) (fun g20 hg20 x22 M21 => ?_) 1000000 _ _
            show pm_Im none (pm_Ev (k + 5)) pm_T161 none pm_rV _ (99, [some (.ref 49), none, none, none, none, some (.int x22)], [], M21)
            refine pm_irun 2 (σ' := (103, [some (.ref 49), none, none, none, none, some (.int x22)], [.int (10 : Int32), .int x22], M21)) rfl ?_
            refine pm_iite (σ1 := (126, [some (.ref 49), none, none, none, none, some (.int x22)], [], M21)) (σ2 := (106, [some (.ref 49), none, none, none, none, some (.int x22)], [], M21)) rfl (fun _ => ?_) (fun _ => ?_)
            · exact pm_irV rfl rfl
            · refine pm_irun 6 (σ' := (118, [some (.ref 49), none, none, none, none, some (.int x22)], [.int x22, .ref 64, .int x22, .ref 65], M21)) rfl ?_
              refine pm_igd (σ1 := (119, [some (.ref 49), none, none, none, none, some (.int x22)], [.int (M21.1 64 x22.toNatClampNeg), .int x22, .ref 65], M21)) rfl (fun _ => ?_)
              refine pm_igd (σ1 := (120, [some (.ref 49), none, none, none, none, some (.int x22)], [], (pm_sI M21 65 x22.toNatClampNeg ((M21.1 64 x22.toNatClampNeg))))) rfl (fun _ => ?_)
              refine pm_ilt (fun y => (120, [some (.ref 49), none, none, none, none, some (.int x22)], [], y)) (fun M23 => ?_)
              refine pm_irun 1 (σ' := (123, [some (.ref 49), none, none, none, none, some (.int (x22 + (1 : Int32)))], [], M23)) rfl ?_
              refine pm_ilt (fun y => (123, [some (.ref 49), none, none, none, none, some (.int y)], [], M23)) (fun x24 => ?_)
              refine pm_irun 1 (σ' := (99, [some (.ref 49), none, none, none, none, some (.int x24)], [], M23)) rfl ?_
              exact hg20 _ _
        · refine pm_irun 6 (σ' := (69, [some (.ref 49), none, none, some (.int x1), none, none], [.int (1 : Int32), .ref 53, .int (M14.1 49 1), .ref 49], M14)) rfl ?_
          refine pm_igt (c := pm_in (1 : Int32) 2) (σ1 := (70, [some (.ref 49), none, none, some (.int x1), none, none], [.int (M14.1 53 1), .int (M14.1 49 1), .ref 49], M14)) (by decide) rfl ?_
          refine pm_icV (as := [.ref 49, .int (M14.1 49 1), .int (M14.1 53 1)]) (rest := []) rfl rfl rfl rfl (Nat.le_of_ble_eq_true rfl) rfl (fun r h => ih (M14.1 49 1) (M14.1 53 1) M14 r h) (fun M25 => ?_)
          show pm_Im _ _ _ _ _ _ (73, [some (.ref 49), none, none, some (.int x1), none, none], [], M25)
          refine pm_irun 1 (σ' := (126, [some (.ref 49), none, none, some (.int x1), none, none], [], M25)) rfl ?_
          exact pm_irV rfl rfl
      refine pm_iite (σ1 := (55, [some (.ref 49), some (.int a1), some (.int a2), some (.int x1), some (.int x2), none], [], M12)) (σ2 := (38, [some (.ref 49), some (.int a1), some (.int a2), some (.int x1), some (.int x2), none], [], M12)) rfl (fun _ => ?_) (fun _ => ?_)
      · refine pm_iwk (al' := [some (.ref 49), none, none, some (.int x1), none, none]) (pm_wkS (pm_wkN (pm_wkN (pm_wkS (pm_wkN (pm_wkS pm_wk0)))))) ?_
        exact hj13 _
      · refine pm_irun 7 (σ' := (48, [some (.ref 49), some (.int a1), some (.int a2), some (.int x1), some (.int x2), none], [.int (((5 : Int32) * x1) + x2), .ref 60], M12)) rfl ?_
        refine pm_igd (σ1 := (49, [some (.ref 49), some (.int a1), some (.int a2), some (.int x1), some (.int x2), none], [.long (M12.2 60 (((5 : Int32) * x1) + x2).toNatClampNeg)], M12)) rfl (fun _ => ?_)
        refine pm_irun 2 (σ' := (51, [some (.ref 49), some (.int a1), some (.int a2), some (.int x1), some (.int x2), none], [.int (lg_cmp (M12.2 60 (((5 : Int32) * x1) + x2).toNatClampNeg) (0 : Int64))], M12)) rfl ?_
        refine pm_iite (σ1 := (55, [some (.ref 49), some (.int a1), some (.int a2), some (.int x1), some (.int x2), none], [], M12)) (σ2 := (54, [some (.ref 49), some (.int a1), some (.int a2), some (.int x1), some (.int x2), none], [], M12)) rfl (fun _ => ?_) (fun _ => ?_)
        · refine pm_iwk (al' := [some (.ref 49), none, none, some (.int x1), none, none]) (pm_wkS (pm_wkN (pm_wkN (pm_wkS (pm_wkN (pm_wkS pm_wk0)))))) ?_
          exact hj13 _
        · exact pm_irV rfl rfl
def sR_likeliest  (M : pm_M) : Option (pm_M) := pm_lt (pm_sL M 49 20 (-1 : Int64)) fun M1 => pm_loop (fun _ _ => none) (fun (g2 : Int32 → pm_M → Option (pm_M)) x4 M3 => if (10 : Int32) ≤ x4 then (if (M3.1 49 1) ≤ 0 then (some M3) else (pm_bv (sR_walk 12 (0 : Int32) (M3.1 53 0) M3) fun M5 => some M5)) else (if pm_in x4 10 then (pm_lt (pm_sI M3 64 x4.toNatClampNeg (0 : Int32)) fun M6 => if pm_in x4 10 then (pm_lt (pm_sI M6 65 x4.toNatClampNeg (0 : Int32)) fun M7 => pm_lt ((x4 + (1 : Int32))) fun x8 => g2 x8 M7) else none) else none)) 1000000 (0 : Int32) M1
abbrev I_R_likeliest (sh : Option (pm_M)) (σ : pm_St) : Prop := pm_Im none (pm_Ev 17) pm_T163 none pm_rV sh σ
set_option maxHeartbeats 4000000 in
set_option maxRecDepth 100000 in
theorem sR_likeliest_ok  (M : pm_M) : ∀ r, sR_likeliest  M = some r → pm_Ev 18 163 [.ref 49] M (pm_rV r).1 (pm_rV r).2 := by
  refine pm_meth (al := [some (.ref 49), none]) rfl rfl rfl rfl rfl ?_
  unfold sR_likeliest
  show I_R_likeliest _ (0, [some (.ref 49), none], [], M)
  refine pm_irun 2 (σ' := (4, [some (.ref 49), none], [.long (-1 : Int64), .ref 49], M)) rfl ?_
  refine pm_irun 1 (σ' := (7, [some (.ref 49), none], [], (pm_sL M 49 20 (-1 : Int64)))) rfl ?_
  refine pm_ilt (fun y => (7, [some (.ref 49), none], [], y)) (fun M1 => ?_)
  refine pm_irun 2 (σ' := (9, [some (.ref 49), some (.int (0 : Int32))], [], M1)) rfl ?_
  refine pm_iloop (fun (g : Int32 → pm_M → Option (pm_M)) => ∀ (x4 : Int32) (M3 : pm_M), I_R_likeliest (g x4 M3) (9, [some (.ref 49), some (.int x4)], [], M3)) (fun _ _ => pm_inone) (fun g2 hg2 x4 M3 => ?_) 1000000 _ _
  show I_R_likeliest _ (9, [some (.ref 49), some (.int x4)], [], M3)
  refine pm_irun 2 (σ' := (12, [some (.ref 49), some (.int x4)], [.int (10 : Int32), .int x4], M3)) rfl ?_
  refine pm_iite (σ1 := (35, [some (.ref 49), some (.int x4)], [], M3)) (σ2 := (15, [some (.ref 49), some (.int x4)], [], M3)) rfl (fun _ => ?_) (fun _ => ?_)
  · refine pm_irun 2 (σ' := (39, [some (.ref 49), some (.int x4)], [.int (M3.1 49 1)], M3)) rfl ?_
    refine pm_iite (σ1 := (53, [some (.ref 49), some (.int x4)], [], M3)) (σ2 := (42, [some (.ref 49), some (.int x4)], [], M3)) rfl (fun _ => ?_) (fun _ => ?_)
    · exact pm_irV rfl rfl
    · refine pm_irun 5 (σ' := (49, [some (.ref 49), some (.int x4)], [.int (0 : Int32), .ref 53, .int (0 : Int32), .ref 49], M3)) rfl ?_
      refine pm_igt (c := pm_in (0 : Int32) 2) (σ1 := (50, [some (.ref 49), some (.int x4)], [.int (M3.1 53 0), .int (0 : Int32), .ref 49], M3)) (by decide) rfl ?_
      refine pm_icV (as := [.ref 49, .int (0 : Int32), .int (M3.1 53 0)]) (rest := []) rfl rfl rfl rfl (Nat.le_of_ble_eq_true rfl) rfl (fun r h => pm_Ev_mono (Nat.le_of_ble_eq_true rfl) (sR_walk_ok 12 (0 : Int32) (M3.1 53 0) M3 r h)) (fun M5 => ?_)
      show pm_Im _ _ _ _ _ _ (53, [some (.ref 49), some (.int x4)], [], M5)
      exact pm_irV rfl rfl
  · refine pm_irun 4 (σ' := (21, [some (.ref 49), some (.int x4)], [.int (0 : Int32), .int x4, .ref 64], M3)) rfl ?_
    refine pm_igd (σ1 := (22, [some (.ref 49), some (.int x4)], [], (pm_sI M3 64 x4.toNatClampNeg (0 : Int32)))) rfl (fun _ => ?_)
    refine pm_ilt (fun y => (22, [some (.ref 49), some (.int x4)], [], y)) (fun M6 => ?_)
    refine pm_irun 4 (σ' := (28, [some (.ref 49), some (.int x4)], [.int (0 : Int32), .int x4, .ref 65], M6)) rfl ?_
    refine pm_igd (σ1 := (29, [some (.ref 49), some (.int x4)], [], (pm_sI M6 65 x4.toNatClampNeg (0 : Int32)))) rfl (fun _ => ?_)
    refine pm_ilt (fun y => (29, [some (.ref 49), some (.int x4)], [], y)) (fun M7 => ?_)
    refine pm_irun 1 (σ' := (32, [some (.ref 49), some (.int (x4 + (1 : Int32)))], [], M7)) rfl ?_
    refine pm_ilt (fun y => (32, [some (.ref 49), some (.int y)], [], M7)) (fun x8 => ?_)
    refine pm_irun 1 (σ' := (9, [some (.ref 49), some (.int x8)], [], M7)) rfl ?_
    exact hg2 _ _
def sR_likely (a1 : Int32) (a2 : Int32) (M : pm_M) : Option (Int32 × pm_M) := pm_bd (sR_isPart a1 M) fun v2 M1 => if v2 = 0 then (some ((-2 : Int32), M1)) else (pm_bd (sR_isStation a2 M1) fun v4 M3 => if ¬ v4 = 0 then (pm_bd (sR_isSound M3) fun v6 M5 => if ¬ v6 = 0 then (pm_bv (sR_likeliest M5) fun M7 => if pm_in (((5 : Int32) * a1) + a2) 10 then (some ((M7.1 65 (((5 : Int32) * a1) + a2).toNatClampNeg), M7)) else none) else (some ((-3 : Int32), M5))) else (some ((-2 : Int32), M3)))
abbrev I_R_likely (sh : Option (Int32 × pm_M)) (σ : pm_St) : Prop := pm_Im none (pm_Ev 18) pm_T164 (some .int) pm_rI sh σ
set_option maxHeartbeats 4000000 in
set_option maxRecDepth 100000 in
theorem sR_likely_ok (a1 : Int32) (a2 : Int32) (M : pm_M) : ∀ r, sR_likely a1 a2 M = some r → pm_Ev 19 164 [.ref 49, .int a1, .int a2] M (pm_rI r).1 (pm_rI r).2 := by
  refine pm_meth (al := [some (.ref 49), some (.int a1), some (.int a2)]) rfl rfl rfl rfl rfl ?_
  unfold sR_likely
  show I_R_likely _ (0, [some (.ref 49), some (.int a1), some (.int a2)], [], M)
  refine pm_irun 1 (σ' := (1, [some (.ref 49), some (.int a1), some (.int a2)], [.int a1], M)) rfl ?_
  refine pm_icI (as := [.int a1]) (rest := []) rfl rfl rfl rfl (Nat.le_of_ble_eq_true rfl) rfl (fun r h => pm_Ev_mono (Nat.le_of_ble_eq_true rfl) (sR_isPart_ok a1 M r h)) (fun v2 M1 => ?_)
  show pm_Im _ _ _ _ _ _ (4, [some (.ref 49), some (.int a1), some (.int a2)], [.int v2], M1)
  refine pm_iite (σ1 := (15, [some (.ref 49), some (.int a1), some (.int a2)], [], M1)) (σ2 := (7, [some (.ref 49), some (.int a1), some (.int a2)], [], M1)) rfl (fun _ => ?_) (fun _ => ?_)
  · refine pm_irun 1 (σ' := (17, [some (.ref 49), some (.int a1), some (.int a2)], [.int (-2 : Int32)], M1)) rfl ?_
    exact pm_irI rfl rfl
  · refine pm_irun 2 (σ' := (9, [some (.ref 49), some (.int a1), some (.int a2)], [.int a2, .ref 49], M1)) rfl ?_
    refine pm_icI (as := [.ref 49, .int a2]) (rest := []) rfl rfl rfl rfl (Nat.le_of_ble_eq_true rfl) rfl (fun r h => pm_Ev_mono (Nat.le_of_ble_eq_true rfl) (sR_isStation_ok a2 M1 r h)) (fun v4 M3 => ?_)
    show pm_Im _ _ _ _ _ _ (12, [some (.ref 49), some (.int a1), some (.int a2)], [.int v4], M3)
    refine pm_iite (σ1 := (18, [some (.ref 49), some (.int a1), some (.int a2)], [], M3)) (σ2 := (15, [some (.ref 49), some (.int a1), some (.int a2)], [], M3)) rfl (fun _ => ?_) (fun _ => ?_)
    · refine pm_irun 1 (σ' := (19, [some (.ref 49), some (.int a1), some (.int a2)], [.ref 49], M3)) rfl ?_
      refine pm_icI (as := [.ref 49]) (rest := []) rfl rfl rfl rfl (Nat.le_of_ble_eq_true rfl) rfl (fun r h => pm_Ev_mono (Nat.le_of_ble_eq_true rfl) (sR_isSound_ok M3 r h)) (fun v6 M5 => ?_)
      show pm_Im _ _ _ _ _ _ (22, [some (.ref 49), some (.int a1), some (.int a2)], [.int v6], M5)
      refine pm_iite (σ1 := (28, [some (.ref 49), some (.int a1), some (.int a2)], [], M5)) (σ2 := (25, [some (.ref 49), some (.int a1), some (.int a2)], [], M5)) rfl (fun _ => ?_) (fun _ => ?_)
      · refine pm_irun 1 (σ' := (29, [some (.ref 49), some (.int a1), some (.int a2)], [.ref 49], M5)) rfl ?_
        refine pm_icV (as := [.ref 49]) (rest := []) rfl rfl rfl rfl (Nat.le_of_ble_eq_true rfl) rfl (fun r h => pm_Ev_mono (Nat.le_of_ble_eq_true rfl) (sR_likeliest_ok M5 r h)) (fun M7 => ?_)
        show pm_Im _ _ _ _ _ _ (32, [some (.ref 49), some (.int a1), some (.int a2)], [], M7)
        refine pm_irun 7 (σ' := (41, [some (.ref 49), some (.int a1), some (.int a2)], [.int (((5 : Int32) * a1) + a2), .ref 65], M7)) rfl ?_
        refine pm_igd (σ1 := (42, [some (.ref 49), some (.int a1), some (.int a2)], [.int (M7.1 65 (((5 : Int32) * a1) + a2).toNatClampNeg)], M7)) rfl (fun _ => ?_)
        exact pm_irI rfl rfl
      · refine pm_irun 1 (σ' := (27, [some (.ref 49), some (.int a1), some (.int a2)], [.int (-3 : Int32)], M5)) rfl ?_
        exact pm_irI rfl rfl
    · refine pm_irun 1 (σ' := (17, [some (.ref 49), some (.int a1), some (.int a2)], [.int (-2 : Int32)], M3)) rfl ?_
      exact pm_irI rfl rfl
def sJArr_fillL_41 (a2 : Int64) (M : pm_M) : Option (pm_M) := pm_loop (fun _ _ => none) (fun (g1 : Int32 → pm_M → Option (pm_M)) x3 M2 => if (40 : Int32) ≤ x3 then (some M2) else (if pm_in x3 40 then (pm_lt (pm_sL M2 41 x3.toNatClampNeg a2) fun M4 => pm_lt ((x3 + (1 : Int32))) fun x5 => g1 x5 M4) else none)) 1000000 (0 : Int32) M
abbrev I_JArr_fillL_41 (sh : Option (pm_M)) (σ : pm_St) : Prop := pm_Im none (pm_Ev 0) pm_T207 none pm_rV sh σ
set_option maxHeartbeats 4000000 in
set_option maxRecDepth 100000 in
theorem sJArr_fillL_41_ok (a2 : Int64) (M : pm_M) : ∀ r, sJArr_fillL_41 a2 M = some r → pm_Ev 1 207 [.ref 41, .long a2] M (pm_rV r).1 (pm_rV r).2 := by
  refine pm_meth (al := [some (.ref 41), some (.long a2), none, none, none]) rfl rfl rfl rfl rfl ?_
  unfold sJArr_fillL_41
  show I_JArr_fillL_41 _ (0, [some (.ref 41), some (.long a2), none, none, none], [], M)
  refine pm_irun 2 (σ' := (2, [some (.ref 41), some (.long a2), none, some (.int (0 : Int32)), none], [], M)) rfl ?_
  refine pm_irun 3 (σ' := (6, [some (.ref 41), some (.long a2), none, some (.int (0 : Int32)), some (.int (40 : Int32))], [], M)) rfl ?_
  refine pm_iloop (fun (g : Int32 → pm_M → Option (pm_M)) => ∀ (x3 : Int32) (M2 : pm_M), I_JArr_fillL_41 (g x3 M2) (6, [some (.ref 41), some (.long a2), none, some (.int x3), some (.int (40 : Int32))], [], M2)) (fun _ _ => pm_inone) (fun g1 hg1 x3 M2 => ?_) 1000000 _ _
  show I_JArr_fillL_41 _ (6, [some (.ref 41), some (.long a2), none, some (.int x3), some (.int (40 : Int32))], [], M2)
  refine pm_irun 2 (σ' := (9, [some (.ref 41), some (.long a2), none, some (.int x3), some (.int (40 : Int32))], [.int (40 : Int32), .int x3], M2)) rfl ?_
  refine pm_iite (σ1 := (22, [some (.ref 41), some (.long a2), none, some (.int x3), some (.int (40 : Int32))], [], M2)) (σ2 := (12, [some (.ref 41), some (.long a2), none, some (.int x3), some (.int (40 : Int32))], [], M2)) rfl (fun _ => ?_) (fun _ => ?_)
  · exact pm_irV rfl rfl
  · refine pm_irun 3 (σ' := (15, [some (.ref 41), some (.long a2), none, some (.int x3), some (.int (40 : Int32))], [.long a2, .int x3, .ref 41], M2)) rfl ?_
    refine pm_igd (σ1 := (16, [some (.ref 41), some (.long a2), none, some (.int x3), some (.int (40 : Int32))], [], (pm_sL M2 41 x3.toNatClampNeg a2))) rfl (fun _ => ?_)
    refine pm_ilt (fun y => (16, [some (.ref 41), some (.long a2), none, some (.int x3), some (.int (40 : Int32))], [], y)) (fun M4 => ?_)
    refine pm_irun 1 (σ' := (19, [some (.ref 41), some (.long a2), none, some (.int (x3 + (1 : Int32))), some (.int (40 : Int32))], [], M4)) rfl ?_
    refine pm_ilt (fun y => (19, [some (.ref 41), some (.long a2), none, some (.int y), some (.int (40 : Int32))], [], M4)) (fun x5 => ?_)
    refine pm_irun 1 (σ' := (6, [some (.ref 41), some (.long a2), none, some (.int x5), some (.int (40 : Int32))], [], M4)) rfl ?_
    exact hg1 _ _
