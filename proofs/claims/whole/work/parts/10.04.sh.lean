def sStates_factorOf (a1 : Int32) (a2 : Int32) (a3 : Int32) (M : pm_M) : Option (Int64 × pm_M) := if pm_in a1 10 then (pm_bd (sC_power (M.2 25 a1.toNatClampNeg) a2 M) fun v2 M1 => if pm_in ((5 : Int32) + a1) 10 then (pm_bd (sC_power (M1.2 25 ((5 : Int32) + a1).toNatClampNeg) a3 M1) fun v4 M3 => pm_lt ((v2 * v4)) fun x5 => if pm_in a1 5 then (if (M3.1 24 a1.toNatClampNeg) = 0 then (pm_bd (sC_factorial (a2 + a3) M3) fun v7 M6 => some ((x5 * v7), M6)) else (some (x5, M3))) else none) else none) else none
abbrev I_States_factorOf (sh : Option (Int64 × pm_M)) (σ : pm_St) : Prop := pm_Im none (pm_Ev 1) pm_T29 (some .long) pm_rL sh σ
set_option maxHeartbeats 4000000 in
set_option maxRecDepth 100000 in
theorem sStates_factorOf_ok (a1 : Int32) (a2 : Int32) (a3 : Int32) (M : pm_M) : ∀ r, sStates_factorOf a1 a2 a3 M = some r → pm_Ev 2 29 [.ref 23, .int a1, .int a2, .int a3] M (pm_rL r).1 (pm_rL r).2 := by
  refine pm_meth (al := [some (.ref 23), some (.int a1), some (.int a2), some (.int a3), none, none]) rfl rfl rfl rfl rfl ?_
  unfold sStates_factorOf
  show I_States_factorOf _ (0, [some (.ref 23), some (.int a1), some (.int a2), some (.int a3), none, none], [], M)
  refine pm_irun 3 (σ' := (5, [some (.ref 23), some (.int a1), some (.int a2), some (.int a3), none, none], [.int a1, .ref 25], M)) rfl ?_
  refine pm_igd (σ1 := (6, [some (.ref 23), some (.int a1), some (.int a2), some (.int a3), none, none], [.long (M.2 25 a1.toNatClampNeg)], M)) rfl (fun _ => ?_)
  refine pm_irun 1 (σ' := (7, [some (.ref 23), some (.int a1), some (.int a2), some (.int a3), none, none], [.int a2, .long (M.2 25 a1.toNatClampNeg)], M)) rfl ?_
  refine pm_icL (as := [.long (M.2 25 a1.toNatClampNeg), .int a2]) (rest := []) rfl rfl rfl rfl (Nat.le_of_ble_eq_true rfl) rfl (fun r h => pm_Ev_mono (Nat.le_of_ble_eq_true rfl) (sC_power_ok (M.2 25 a1.toNatClampNeg) a2 M r h)) (fun v2 M1 => ?_)
  show pm_Im _ _ _ _ _ _ (10, [some (.ref 23), some (.int a1), some (.int a2), some (.int a3), none, none], [.long v2], M1)
  refine pm_irun 5 (σ' := (17, [some (.ref 23), some (.int a1), some (.int a2), some (.int a3), none, none], [.int ((5 : Int32) + a1), .ref 25, .long v2], M1)) rfl ?_
  refine pm_igd (σ1 := (18, [some (.ref 23), some (.int a1), some (.int a2), some (.int a3), none, none], [.long (M1.2 25 ((5 : Int32) + a1).toNatClampNeg), .long v2], M1)) rfl (fun _ => ?_)
  refine pm_irun 1 (σ' := (19, [some (.ref 23), some (.int a1), some (.int a2), some (.int a3), none, none], [.int a3, .long (M1.2 25 ((5 : Int32) + a1).toNatClampNeg), .long v2], M1)) rfl ?_
  refine pm_icL (as := [.long (M1.2 25 ((5 : Int32) + a1).toNatClampNeg), .int a3]) (rest := [.long v2]) rfl rfl rfl rfl (Nat.le_of_ble_eq_true rfl) rfl (fun r h => pm_Ev_mono (Nat.le_of_ble_eq_true rfl) (sC_power_ok (M1.2 25 ((5 : Int32) + a1).toNatClampNeg) a3 M1 r h)) (fun v4 M3 => ?_)
  show pm_Im _ _ _ _ _ _ (22, [some (.ref 23), some (.int a1), some (.int a2), some (.int a3), none, none], [.long v4, .long v2], M3)
  refine pm_irun 2 (σ' := (25, [some (.ref 23), some (.int a1), some (.int a2), some (.int a3), some (.long (v2 * v4)), none], [], M3)) rfl ?_
  refine pm_ilt (fun y => (25, [some (.ref 23), some (.int a1), some (.int a2), some (.int a3), some (.long y), none], [], M3)) (fun x5 => ?_)
  refine pm_irun 3 (σ' := (30, [some (.ref 23), some (.int a1), some (.int a2), some (.int a3), some (.long x5), none], [.int a1, .ref 24], M3)) rfl ?_
  refine pm_igd (σ1 := (31, [some (.ref 23), some (.int a1), some (.int a2), some (.int a3), some (.long x5), none], [.int (M3.1 24 a1.toNatClampNeg)], M3)) rfl (fun _ => ?_)
  refine pm_iite (σ1 := (39, [some (.ref 23), some (.int a1), some (.int a2), some (.int a3), some (.long x5), none], [], M3)) (σ2 := (34, [some (.ref 23), some (.int a1), some (.int a2), some (.int a3), some (.long x5), none], [], M3)) rfl (fun _ => ?_) (fun _ => ?_)
  · refine pm_irun 4 (σ' := (44, [some (.ref 23), some (.int a1), some (.int a2), some (.int a3), some (.long x5), none], [.int (a2 + a3), .long x5], M3)) rfl ?_
    refine pm_icL (as := [.int (a2 + a3)]) (rest := [.long x5]) rfl rfl rfl rfl (Nat.le_of_ble_eq_true rfl) rfl (fun r h => pm_Ev_mono (Nat.le_of_ble_eq_true rfl) (sC_factorial_ok (a2 + a3) M3 r h)) (fun v7 M6 => ?_)
    show pm_Im _ _ _ _ _ _ (47, [some (.ref 23), some (.int a1), some (.int a2), some (.int a3), some (.long x5), none], [.long v7, .long x5], M6)
    refine pm_irun 1 (σ' := (48, [some (.ref 23), some (.int a1), some (.int a2), some (.int a3), some (.long x5), none], [.long (x5 * v7)], M6)) rfl ?_
    exact pm_irL rfl rfl
  · refine pm_irun 2 (σ' := (48, [some (.ref 23), some (.int a1), some (.int a2), some (.int a3), some (.long x5), none], [.long x5], M3)) rfl ?_
    exact pm_irL rfl rfl
def sStates_fillFactors (a1 : Int32) (a2 : Int32) (a3 : Int32) (M : pm_M) : Option (pm_M) := pm_loop (fun _ _ => none) (fun (g1 : Int32 → pm_M → Option (pm_M)) x3 M2 => if a2 < x3 then (some M2) else (pm_loop (fun _ _ => none) (fun (g4 : Int32 → pm_M → Option (pm_M)) x6 M5 => if a3 < x6 then (pm_lt ((x3 + (1 : Int32))) fun x7 => g1 x7 M5) else (pm_bd (sStates_factorOf a1 x3 x6 M5) fun v9 M8 => if pm_in ((x3 * (7 : Int32)) + x6) 49 then (pm_lt (pm_sL M8 27 ((x3 * (7 : Int32)) + x6).toNatClampNeg v9) fun M10 => pm_lt ((x6 + (1 : Int32))) fun x11 => g4 x11 M10) else none)) 1000000 (0 : Int32) M2)) 1000000 (0 : Int32) M
abbrev I_States_fillFactors (sh : Option (pm_M)) (σ : pm_St) : Prop := pm_Im none (pm_Ev 2) pm_T28 none pm_rV sh σ
set_option maxHeartbeats 4000000 in
set_option maxRecDepth 100000 in
theorem sStates_fillFactors_ok (a1 : Int32) (a2 : Int32) (a3 : Int32) (M : pm_M) : ∀ r, sStates_fillFactors a1 a2 a3 M = some r → pm_Ev 3 28 [.ref 23, .int a1, .int a2, .int a3] M (pm_rV r).1 (pm_rV r).2 := by
  refine pm_meth (al := [some (.ref 23), some (.int a1), some (.int a2), some (.int a3), none, none]) rfl rfl rfl rfl rfl ?_
  unfold sStates_fillFactors
  show I_States_fillFactors _ (0, [some (.ref 23), some (.int a1), some (.int a2), some (.int a3), none, none], [], M)
  refine pm_irun 2 (σ' := (3, [some (.ref 23), some (.int a1), some (.int a2), some (.int a3), some (.int (0 : Int32)), none], [], M)) rfl ?_
  refine pm_iloop (fun (g : Int32 → pm_M → Option (pm_M)) => ∀ (x3 : Int32) (M2 : pm_M), I_States_fillFactors (g x3 M2) (3, [some (.ref 23), some (.int a1), some (.int a2), some (.int a3), some (.int x3), none], [], M2)) (fun _ _ => pm_inone) (fun g1 hg1 x3 M2 => ?_) 1000000 _ _
  show I_States_fillFactors _ (3, [some (.ref 23), some (.int a1), some (.int a2), some (.int a3), some (.int x3), none], [], M2)
  refine pm_irun 2 (σ' := (6, [some (.ref 23), some (.int a1), some (.int a2), some (.int a3), some (.int x3), none], [.int a2, .int x3], M2)) rfl ?_
  refine pm_iite (σ1 := (52, [some (.ref 23), some (.int a1), some (.int a2), some (.int a3), some (.int x3), none], [], M2)) (σ2 := (9, [some (.ref 23), some (.int a1), some (.int a2), some (.int a3), some (.int x3), none], [], M2)) rfl (fun _ => ?_) (fun _ => ?_)
  · exact pm_irV rfl rfl
  · refine pm_irun 2 (σ' := (12, [some (.ref 23), some (.int a1), some (.int a2), some (.int a3), some (.int x3), some (.int (0 : Int32))], [], M2)) rfl ?_
    refine pm_iloop (fun (g : Int32 → pm_M → Option (pm_M)) => ∀ (x6 : Int32) (M5 : pm_M), I_States_fillFactors (g x6 M5) (12, [some (.ref 23), some (.int a1), some (.int a2), some (.int a3), some (.int x3), some (.int x6)], [], M5)) (fun _ _ => pm_inone) (fun g4 hg4 x6 M5 => ?_) 1000000 _ _
    show I_States_fillFactors _ (12, [some (.ref 23), some (.int a1), some (.int a2), some (.int a3), some (.int x3), some (.int x6)], [], M5)
    refine pm_irun 2 (σ' := (15, [some (.ref 23), some (.int a1), some (.int a2), some (.int a3), some (.int x3), some (.int x6)], [.int a3, .int x6], M5)) rfl ?_
    refine pm_iite (σ1 := (46, [some (.ref 23), some (.int a1), some (.int a2), some (.int a3), some (.int x3), some (.int x6)], [], M5)) (σ2 := (18, [some (.ref 23), some (.int a1), some (.int a2), some (.int a3), some (.int x3), some (.int x6)], [], M5)) rfl (fun _ => ?_) (fun _ => ?_)
    · refine pm_irun 1 (σ' := (49, [some (.ref 23), some (.int a1), some (.int a2), some (.int a3), some (.int (x3 + (1 : Int32))), some (.int x6)], [], M5)) rfl ?_
      refine pm_ilt (fun y => (49, [some (.ref 23), some (.int a1), some (.int a2), some (.int a3), some (.int y), some (.int x6)], [], M5)) (fun x7 => ?_)
      refine pm_irun 1 (σ' := (3, [some (.ref 23), some (.int a1), some (.int a2), some (.int a3), some (.int x7), some (.int x6)], [], M5)) rfl ?_
      refine pm_iwk (al' := [some (.ref 23), some (.int a1), some (.int a2), some (.int a3), some (.int x7), none]) (pm_wkS (pm_wkS (pm_wkS (pm_wkS (pm_wkS (pm_wkN pm_wk0)))))) ?_
      exact hg1 _ _
    · refine pm_irun 8 (σ' := (31, [some (.ref 23), some (.int a1), some (.int a2), some (.int a3), some (.int x3), some (.int x6)], [.ref 23, .int ((x3 * (7 : Int32)) + x6), .ref 27], M5)) rfl ?_
      refine pm_irun 3 (σ' := (36, [some (.ref 23), some (.int a1), some (.int a2), some (.int a3), some (.int x3), some (.int x6)], [.int x6, .int x3, .int a1, .ref 23, .int ((x3 * (7 : Int32)) + x6), .ref 27], M5)) rfl ?_
      refine pm_icL (as := [.ref 23, .int a1, .int x3, .int x6]) (rest := [.int ((x3 * (7 : Int32)) + x6), .ref 27]) rfl rfl rfl rfl (Nat.le_of_ble_eq_true rfl) rfl (fun r h => pm_Ev_mono (Nat.le_of_ble_eq_true rfl) (sStates_factorOf_ok a1 x3 x6 M5 r h)) (fun v9 M8 => ?_)
      show pm_Im _ _ _ _ _ _ (39, [some (.ref 23), some (.int a1), some (.int a2), some (.int a3), some (.int x3), some (.int x6)], [.long v9, .int ((x3 * (7 : Int32)) + x6), .ref 27], M8)
      refine pm_igd (σ1 := (40, [some (.ref 23), some (.int a1), some (.int a2), some (.int a3), some (.int x3), some (.int x6)], [], (pm_sL M8 27 ((x3 * (7 : Int32)) + x6).toNatClampNeg v9))) rfl (fun _ => ?_)
      refine pm_ilt (fun y => (40, [some (.ref 23), some (.int a1), some (.int a2), some (.int a3), some (.int x3), some (.int x6)], [], y)) (fun M10 => ?_)
      refine pm_irun 1 (σ' := (43, [some (.ref 23), some (.int a1), some (.int a2), some (.int a3), some (.int x3), some (.int (x6 + (1 : Int32)))], [], M10)) rfl ?_
      refine pm_ilt (fun y => (43, [some (.ref 23), some (.int a1), some (.int a2), some (.int a3), some (.int x3), some (.int y)], [], M10)) (fun x11 => ?_)
      refine pm_irun 1 (σ' := (12, [some (.ref 23), some (.int a1), some (.int a2), some (.int a3), some (.int x3), some (.int x11)], [], M10)) rfl ?_
      exact hg4 _ _
def sC_choose (a1 : Int32) (a2 : Int32) (M : pm_M) : Option (Int64 × pm_M) := if a1 < 0 then (some ((0 : Int64), M)) else (if (6 : Int32) < a1 then (some ((0 : Int64), M)) else (if a2 < 0 then (some ((0 : Int64), M)) else (if a2 ≤ a1 then (if pm_in ((a1 * (7 : Int32)) + a2) 49 then (some ((pm_CH ((a1 * (7 : Int32)) + a2).toNatClampNeg), M)) else none) else (some ((0 : Int64), M)))))
abbrev I_C_choose (sh : Option (Int64 × pm_M)) (σ : pm_St) : Prop := pm_Im none (pm_Ev 0) pm_T118 (some .long) pm_rL sh σ
set_option maxHeartbeats 4000000 in
set_option maxRecDepth 100000 in
theorem sC_choose_ok (a1 : Int32) (a2 : Int32) (M : pm_M) : ∀ r, sC_choose a1 a2 M = some r → pm_Ev 1 118 [.int a1, .int a2] M (pm_rL r).1 (pm_rL r).2 := by
  refine pm_meth (al := [some (.int a1), some (.int a2)]) rfl rfl rfl rfl rfl ?_
  unfold sC_choose
  show I_C_choose _ (0, [some (.int a1), some (.int a2)], [], M)
  refine pm_irun 1 (σ' := (1, [some (.int a1), some (.int a2)], [.int a1], M)) rfl ?_
  refine pm_iite (σ1 := (19, [some (.int a1), some (.int a2)], [], M)) (σ2 := (4, [some (.int a1), some (.int a2)], [], M)) rfl (fun _ => ?_) (fun _ => ?_)
  · refine pm_irun 1 (σ' := (20, [some (.int a1), some (.int a2)], [.long (0 : Int64)], M)) rfl ?_
    exact pm_irL rfl rfl
  · refine pm_irun 2 (σ' := (7, [some (.int a1), some (.int a2)], [.int (6 : Int32), .int a1], M)) rfl ?_
    refine pm_iite (σ1 := (19, [some (.int a1), some (.int a2)], [], M)) (σ2 := (10, [some (.int a1), some (.int a2)], [], M)) rfl (fun _ => ?_) (fun _ => ?_)
    · refine pm_irun 1 (σ' := (20, [some (.int a1), some (.int a2)], [.long (0 : Int64)], M)) rfl ?_
      exact pm_irL rfl rfl
    · refine pm_irun 1 (σ' := (11, [some (.int a1), some (.int a2)], [.int a2], M)) rfl ?_
      refine pm_iite (σ1 := (19, [some (.int a1), some (.int a2)], [], M)) (σ2 := (14, [some (.int a1), some (.int a2)], [], M)) rfl (fun _ => ?_) (fun _ => ?_)
      · refine pm_irun 1 (σ' := (20, [some (.int a1), some (.int a2)], [.long (0 : Int64)], M)) rfl ?_
        exact pm_irL rfl rfl
      · refine pm_irun 2 (σ' := (16, [some (.int a1), some (.int a2)], [.int a1, .int a2], M)) rfl ?_
        refine pm_iite (σ1 := (21, [some (.int a1), some (.int a2)], [], M)) (σ2 := (19, [some (.int a1), some (.int a2)], [], M)) rfl (fun _ => ?_) (fun _ => ?_)
        · refine pm_irun 6 (σ' := (30, [some (.int a1), some (.int a2)], [.int ((a1 * (7 : Int32)) + a2), .ref 101], M)) rfl ?_
          refine pm_igd (σ1 := (31, [some (.int a1), some (.int a2)], [.long (pm_CH ((a1 * (7 : Int32)) + a2).toNatClampNeg)], M)) rfl (fun _ => ?_)
          exact pm_irL rfl rfl
        · refine pm_irun 1 (σ' := (20, [some (.int a1), some (.int a2)], [.long (0 : Int64)], M)) rfl ?_
          exact pm_irL rfl rfl
def sStates_waysTimes (a1 : Int32) (a2 : Int32) (a3 : Int32) (a4 : Int32) (M : pm_M) : Option (Int64 × pm_M) := if pm_in ((((a1 - a3) * (7 : Int32)) + a2) - a4) 49 then (pm_lt ((M.2 26 ((((a1 - a3) * (7 : Int32)) + a2) - a4).toNatClampNeg)) fun x1 => if ¬ (lg_cmp x1 (0 : Int64)) = 0 then (pm_bd (sC_choose a1 a3 M) fun v3 M2 => pm_bd (sC_choose a2 a4 M2) fun v5 M4 => if pm_in ((a3 * (7 : Int32)) + a4) 49 then (some ((((v3 * v5) * (M4.2 27 ((a3 * (7 : Int32)) + a4).toNatClampNeg)) * x1), M4)) else none) else (some ((0 : Int64), M))) else none
abbrev I_States_waysTimes (sh : Option (Int64 × pm_M)) (σ : pm_St) : Prop := pm_Im none (pm_Ev 1) pm_T27 (some .long) pm_rL sh σ
set_option maxHeartbeats 4000000 in
set_option maxRecDepth 100000 in
theorem sStates_waysTimes_ok (a1 : Int32) (a2 : Int32) (a3 : Int32) (a4 : Int32) (M : pm_M) : ∀ r, sStates_waysTimes a1 a2 a3 a4 M = some r → pm_Ev 2 27 [.ref 23, .int a1, .int a2, .int a3, .int a4] M (pm_rL r).1 (pm_rL r).2 := by
  refine pm_meth (al := [some (.ref 23), some (.int a1), some (.int a2), some (.int a3), some (.int a4), none, none]) rfl rfl rfl rfl rfl ?_
  unfold sStates_waysTimes
  show I_States_waysTimes _ (0, [some (.ref 23), some (.int a1), some (.int a2), some (.int a3), some (.int a4), none, none], [], M)
  refine pm_irun 8 (σ' := (11, [some (.ref 23), some (.int a1), some (.int a2), some (.int a3), some (.int a4), none, none], [.int a2, .int ((a1 - a3) * (7 : Int32)), .ref 26], M)) rfl ?_
  refine pm_irun 3 (σ' := (15, [some (.ref 23), some (.int a1), some (.int a2), some (.int a3), some (.int a4), none, none], [.int ((((a1 - a3) * (7 : Int32)) + a2) - a4), .ref 26], M)) rfl ?_
  refine pm_igd (σ1 := (16, [some (.ref 23), some (.int a1), some (.int a2), some (.int a3), some (.int a4), none, none], [.long (M.2 26 ((((a1 - a3) * (7 : Int32)) + a2) - a4).toNatClampNeg)], M)) rfl (fun _ => ?_)
  refine pm_irun 1 (σ' := (18, [some (.ref 23), some (.int a1), some (.int a2), some (.int a3), some (.int a4), some (.long (M.2 26 ((((a1 - a3) * (7 : Int32)) + a2) - a4).toNatClampNeg)), none], [], M)) rfl ?_
  refine pm_ilt (fun y => (18, [some (.ref 23), some (.int a1), some (.int a2), some (.int a3), some (.int a4), some (.long y), none], [], M)) (fun x1 => ?_)
  refine pm_irun 3 (σ' := (22, [some (.ref 23), some (.int a1), some (.int a2), some (.int a3), some (.int a4), some (.long x1), none], [.int (lg_cmp x1 (0 : Int64))], M)) rfl ?_
  refine pm_iite (σ1 := (27, [some (.ref 23), some (.int a1), some (.int a2), some (.int a3), some (.int a4), some (.long x1), none], [], M)) (σ2 := (25, [some (.ref 23), some (.int a1), some (.int a2), some (.int a3), some (.int a4), some (.long x1), none], [], M)) rfl (fun _ => ?_) (fun _ => ?_)
  · refine pm_irun 2 (σ' := (29, [some (.ref 23), some (.int a1), some (.int a2), some (.int a3), some (.int a4), some (.long x1), none], [.int a3, .int a1], M)) rfl ?_
    refine pm_icL (as := [.int a1, .int a3]) (rest := []) rfl rfl rfl rfl (Nat.le_of_ble_eq_true rfl) rfl (fun r h => pm_Ev_mono (Nat.le_of_ble_eq_true rfl) (sC_choose_ok a1 a3 M r h)) (fun v3 M2 => ?_)
    show pm_Im _ _ _ _ _ _ (32, [some (.ref 23), some (.int a1), some (.int a2), some (.int a3), some (.int a4), some (.long x1), none], [.long v3], M2)
    refine pm_irun 2 (σ' := (35, [some (.ref 23), some (.int a1), some (.int a2), some (.int a3), some (.int a4), some (.long x1), none], [.int a4, .int a2, .long v3], M2)) rfl ?_
    refine pm_icL (as := [.int a2, .int a4]) (rest := [.long v3]) rfl rfl rfl rfl (Nat.le_of_ble_eq_true rfl) rfl (fun r h => pm_Ev_mono (Nat.le_of_ble_eq_true rfl) (sC_choose_ok a2 a4 M2 r h)) (fun v5 M4 => ?_)
    show pm_Im _ _ _ _ _ _ (38, [some (.ref 23), some (.int a1), some (.int a2), some (.int a3), some (.int a4), some (.long x1), none], [.long v5, .long v3], M4)
    refine pm_irun 8 (σ' := (50, [some (.ref 23), some (.int a1), some (.int a2), some (.int a3), some (.int a4), some (.long x1), none], [.int ((a3 * (7 : Int32)) + a4), .ref 27, .long (v3 * v5)], M4)) rfl ?_
    refine pm_igd (σ1 := (51, [some (.ref 23), some (.int a1), some (.int a2), some (.int a3), some (.int a4), some (.long x1), none], [.long (M4.2 27 ((a3 * (7 : Int32)) + a4).toNatClampNeg), .long (v3 * v5)], M4)) rfl (fun _ => ?_)
    refine pm_irun 3 (σ' := (55, [some (.ref 23), some (.int a1), some (.int a2), some (.int a3), some (.int a4), some (.long x1), none], [.long (((v3 * v5) * (M4.2 27 ((a3 * (7 : Int32)) + a4).toNatClampNeg)) * x1)], M4)) rfl ?_
    exact pm_irL rfl rfl
  · refine pm_irun 1 (σ' := (26, [some (.ref 23), some (.int a1), some (.int a2), some (.int a3), some (.int a4), some (.long x1), none], [.long (0 : Int64)], M)) rfl ?_
    exact pm_irL rfl rfl
def sStates_addStation (a1 : Int32) (a2 : Int32) (M : pm_M) : Option (pm_M) := pm_loop (fun _ _ => none) (fun (g1 : Int32 → pm_M → Option (pm_M)) x3 M2 => if x3 < 0 then (some M2) else (pm_loop (fun _ _ => none) (fun (g4 : Int32 → pm_M → Option (pm_M)) x6 M5 => if x6 < 0 then (pm_lt ((x3 + (-1 : Int32))) fun x7 => g1 x7 M5) else (pm_loop (fun _ _ _ => none) (fun (g8 : Int64 → Int32 → pm_M → Option (pm_M)) x10 x11 M9 => if x3 < x11 then (if pm_in ((x3 * (7 : Int32)) + x6) 49 then (pm_lt (pm_sL M9 26 ((x3 * (7 : Int32)) + x6).toNatClampNeg x10) fun M12 => pm_lt ((x6 + (-1 : Int32))) fun x13 => g4 x13 M12) else none) else (pm_loop (fun _ _ _ => none) (fun (g14 : Int64 → Int32 → pm_M → Option (pm_M)) x16 x17 M15 => if x6 < x17 then (pm_lt ((x11 + (1 : Int32))) fun x18 => g8 x16 x18 M15) else (pm_bd (sStates_waysTimes x3 x6 x11 x17 M15) fun v20 M19 => pm_lt ((x16 + v20)) fun x21 => pm_lt ((x17 + (1 : Int32))) fun x22 => g14 x21 x22 M19)) 1000000 x10 (0 : Int32) M9)) 1000000 (0 : Int64) (0 : Int32) M5)) 1000000 a2 M2)) 1000000 a1 M
abbrev I_States_addStation (sh : Option (pm_M)) (σ : pm_St) : Prop := pm_Im none (pm_Ev 2) pm_T26 none pm_rV sh σ
set_option maxHeartbeats 4000000 in
set_option maxRecDepth 100000 in
theorem sStates_addStation_ok (a1 : Int32) (a2 : Int32) (M : pm_M) : ∀ r, sStates_addStation a1 a2 M = some r → pm_Ev 3 26 [.ref 23, .int a1, .int a2] M (pm_rV r).1 (pm_rV r).2 := by
  refine pm_meth (al := [some (.ref 23), some (.int a1), some (.int a2), none, none, none, none, none, none]) rfl rfl rfl rfl rfl ?_
  unfold sStates_addStation
  show I_States_addStation _ (0, [some (.ref 23), some (.int a1), some (.int a2), none, none, none, none, none, none], [], M)
  refine pm_irun 2 (σ' := (2, [some (.ref 23), some (.int a1), some (.int a2), some (.int a1), none, none, none, none, none], [], M)) rfl ?_
  refine pm_iwk (al' := [some (.ref 23), none, some (.int a2), some (.int a1), none, none, none, none, none]) (pm_wkS (pm_wkN (pm_wkS (pm_wkS (pm_wkS (pm_wkS (pm_wkS (pm_wkS (pm_wkS pm_wk0))))))))) ?_
  refine pm_iloop (fun (g : Int32 → pm_M → Option (pm_M)) => ∀ (x3 : Int32) (M2 : pm_M), I_States_addStation (g x3 M2) (2, [some (.ref 23), none, some (.int a2), some (.int x3), none, none, none, none, none], [], M2)) (fun _ _ => pm_inone) (fun g1 hg1 x3 M2 => ?_) 1000000 _ _
  show I_States_addStation _ (2, [some (.ref 23), none, some (.int a2), some (.int x3), none, none, none, none, none], [], M2)
  refine pm_irun 1 (σ' := (3, [some (.ref 23), none, some (.int a2), some (.int x3), none, none, none, none, none], [.int x3], M2)) rfl ?_
  refine pm_iite (σ1 := (90, [some (.ref 23), none, some (.int a2), some (.int x3), none, none, none, none, none], [], M2)) (σ2 := (6, [some (.ref 23), none, some (.int a2), some (.int x3), none, none, none, none, none], [], M2)) rfl (fun _ => ?_) (fun _ => ?_)
  · exact pm_irV rfl rfl
  · refine pm_irun 2 (σ' := (9, [some (.ref 23), none, some (.int a2), some (.int x3), some (.int a2), none, none, none, none], [], M2)) rfl ?_
    refine pm_iloop (fun (g : Int32 → pm_M → Option (pm_M)) => ∀ (x6 : Int32) (M5 : pm_M), I_States_addStation (g x6 M5) (9, [some (.ref 23), none, some (.int a2), some (.int x3), some (.int x6), none, none, none, none], [], M5)) (fun _ _ => pm_inone) (fun g4 hg4 x6 M5 => ?_) 1000000 _ _
    show I_States_addStation _ (9, [some (.ref 23), none, some (.int a2), some (.int x3), some (.int x6), none, none, none, none], [], M5)
    refine pm_irun 1 (σ' := (11, [some (.ref 23), none, some (.int a2), some (.int x3), some (.int x6), none, none, none, none], [.int x6], M5)) rfl ?_
    refine pm_iite (σ1 := (84, [some (.ref 23), none, some (.int a2), some (.int x3), some (.int x6), none, none, none, none], [], M5)) (σ2 := (14, [some (.ref 23), none, some (.int a2), some (.int x3), some (.int x6), none, none, none, none], [], M5)) rfl (fun _ => ?_) (fun _ => ?_)
    · refine pm_irun 1 (σ' := (87, [some (.ref 23), none, some (.int a2), some (.int (x3 + (-1 : Int32))), some (.int x6), none, none, none, none], [], M5)) rfl ?_
      refine pm_ilt (fun y => (87, [some (.ref 23), none, some (.int a2), some (.int y), some (.int x6), none, none, none, none], [], M5)) (fun x7 => ?_)
      refine pm_irun 1 (σ' := (2, [some (.ref 23), none, some (.int a2), some (.int x7), some (.int x6), none, none, none, none], [], M5)) rfl ?_
      refine pm_iwk (al' := [some (.ref 23), none, some (.int a2), some (.int x7), none, none, none, none, none]) (pm_wkS (pm_wkS (pm_wkS (pm_wkS (pm_wkN (pm_wkS (pm_wkS (pm_wkS (pm_wkS pm_wk0))))))))) ?_
      exact hg1 _ _
    · refine pm_irun 2 (σ' := (17, [some (.ref 23), none, some (.int a2), some (.int x3), some (.int x6), some (.long (0 : Int64)), none, none, none], [], M5)) rfl ?_
      refine pm_irun 2 (σ' := (20, [some (.ref 23), none, some (.int a2), some (.int x3), some (.int x6), some (.long (0 : Int64)), none, some (.int (0 : Int32)), none], [], M5)) rfl ?_
      refine pm_iloop (fun (g : Int64 → Int32 → pm_M → Option (pm_M)) => ∀ (x10 : Int64) (x11 : Int32) (M9 : pm_M), I_States_addStation (g x10 x11 M9) (20, [some (.ref 23), none, some (.int a2), some (.int x3), some (.int x6), some (.long x10), none, some (.int x11), none], [], M9)) (fun _ _ _ => pm_inone) (fun g8 hg8 x10 x11 M9 => ?_) 1000000 _ _ _
      show I_States_addStation _ (20, [some (.ref 23), none, some (.int a2), some (.int x3), some (.int x6), some (.long x10), none, some (.int x11), none], [], M9)
      refine pm_irun 2 (σ' := (23, [some (.ref 23), none, some (.int a2), some (.int x3), some (.int x6), some (.long x10), none, some (.int x11), none], [.int x3, .int x11], M9)) rfl ?_
      refine pm_iite (σ1 := (64, [some (.ref 23), none, some (.int a2), some (.int x3), some (.int x6), some (.long x10), none, some (.int x11), none], [], M9)) (σ2 := (26, [some (.ref 23), none, some (.int a2), some (.int x3), some (.int x6), some (.long x10), none, some (.int x11), none], [], M9)) rfl (fun _ => ?_) (fun _ => ?_)
      · refine pm_irun 8 (σ' := (77, [some (.ref 23), none, some (.int a2), some (.int x3), some (.int x6), some (.long x10), none, some (.int x11), none], [.long x10, .int ((x3 * (7 : Int32)) + x6), .ref 26], M9)) rfl ?_
        refine pm_igd (σ1 := (78, [some (.ref 23), none, some (.int a2), some (.int x3), some (.int x6), some (.long x10), none, some (.int x11), none], [], (pm_sL M9 26 ((x3 * (7 : Int32)) + x6).toNatClampNeg x10))) rfl (fun _ => ?_)
        refine pm_ilt (fun y => (78, [some (.ref 23), none, some (.int a2), some (.int x3), some (.int x6), some (.long x10), none, some (.int x11), none], [], y)) (fun M12 => ?_)
        refine pm_irun 1 (σ' := (81, [some (.ref 23), none, some (.int a2), some (.int x3), some (.int (x6 + (-1 : Int32))), some (.long x10), none, some (.int x11), none], [], M12)) rfl ?_
        refine pm_ilt (fun y => (81, [some (.ref 23), none, some (.int a2), some (.int x3), some (.int y), some (.long x10), none, some (.int x11), none], [], M12)) (fun x13 => ?_)
        refine pm_irun 1 (σ' := (9, [some (.ref 23), none, some (.int a2), some (.int x3), some (.int x13), some (.long x10), none, some (.int x11), none], [], M12)) rfl ?_
        refine pm_iwk (al' := [some (.ref 23), none, some (.int a2), some (.int x3), some (.int x13), none, none, none, none]) (pm_wkS (pm_wkS (pm_wkS (pm_wkS (pm_wkS (pm_wkN (pm_wkS (pm_wkN (pm_wkS pm_wk0))))))))) ?_
        exact hg4 _ _
      · refine pm_irun 2 (σ' := (29, [some (.ref 23), none, some (.int a2), some (.int x3), some (.int x6), some (.long x10), none, some (.int x11), some (.int (0 : Int32))], [], M9)) rfl ?_
        refine pm_iloop (fun (g : Int64 → Int32 → pm_M → Option (pm_M)) => ∀ (x16 : Int64) (x17 : Int32) (M15 : pm_M), I_States_addStation (g x16 x17 M15) (29, [some (.ref 23), none, some (.int a2), some (.int x3), some (.int x6), some (.long x16), none, some (.int x11), some (.int x17)], [], M15)) (fun _ _ _ => pm_inone) (fun g14 hg14 x16 x17 M15 => ?_) 1000000 _ _ _
        show I_States_addStation _ (29, [some (.ref 23), none, some (.int a2), some (.int x3), some (.int x6), some (.long x16), none, some (.int x11), some (.int x17)], [], M15)
        refine pm_irun 2 (σ' := (33, [some (.ref 23), none, some (.int a2), some (.int x3), some (.int x6), some (.long x16), none, some (.int x11), some (.int x17)], [.int x6, .int x17], M15)) rfl ?_
        refine pm_iite (σ1 := (58, [some (.ref 23), none, some (.int a2), some (.int x3), some (.int x6), some (.long x16), none, some (.int x11), some (.int x17)], [], M15)) (σ2 := (36, [some (.ref 23), none, some (.int a2), some (.int x3), some (.int x6), some (.long x16), none, some (.int x11), some (.int x17)], [], M15)) rfl (fun _ => ?_) (fun _ => ?_)
        · refine pm_irun 1 (σ' := (61, [some (.ref 23), none, some (.int a2), some (.int x3), some (.int x6), some (.long x16), none, some (.int (x11 + (1 : Int32))), some (.int x17)], [], M15)) rfl ?_
          refine pm_ilt (fun y => (61, [some (.ref 23), none, some (.int a2), some (.int x3), some (.int x6), some (.long x16), none, some (.int y), some (.int x17)], [], M15)) (fun x18 => ?_)
          refine pm_irun 1 (σ' := (20, [some (.ref 23), none, some (.int a2), some (.int x3), some (.int x6), some (.long x16), none, some (.int x18), some (.int x17)], [], M15)) rfl ?_
          refine pm_iwk (al' := [some (.ref 23), none, some (.int a2), some (.int x3), some (.int x6), some (.long x16), none, some (.int x18), none]) (pm_wkS (pm_wkS (pm_wkS (pm_wkS (pm_wkS (pm_wkS (pm_wkS (pm_wkS (pm_wkN pm_wk0))))))))) ?_
          exact hg8 _ _ _
        · refine pm_irun 6 (σ' := (46, [some (.ref 23), none, some (.int a2), some (.int x3), some (.int x6), some (.long x16), none, some (.int x11), some (.int x17)], [.int x17, .int x11, .int x6, .int x3, .ref 23, .long x16], M15)) rfl ?_
          refine pm_icL (as := [.ref 23, .int x3, .int x6, .int x11, .int x17]) (rest := [.long x16]) rfl rfl rfl rfl (Nat.le_of_ble_eq_true rfl) rfl (fun r h => pm_Ev_mono (Nat.le_of_ble_eq_true rfl) (sStates_waysTimes_ok x3 x6 x11 x17 M15 r h)) (fun v20 M19 => ?_)
          show pm_Im _ _ _ _ _ _ (49, [some (.ref 23), none, some (.int a2), some (.int x3), some (.int x6), some (.long x16), none, some (.int x11), some (.int x17)], [.long v20, .long x16], M19)
          refine pm_irun 2 (σ' := (52, [some (.ref 23), none, some (.int a2), some (.int x3), some (.int x6), some (.long (x16 + v20)), none, some (.int x11), some (.int x17)], [], M19)) rfl ?_
          refine pm_ilt (fun y => (52, [some (.ref 23), none, some (.int a2), some (.int x3), some (.int x6), some (.long y), none, some (.int x11), some (.int x17)], [], M19)) (fun x21 => ?_)
          refine pm_irun 1 (σ' := (55, [some (.ref 23), none, some (.int a2), some (.int x3), some (.int x6), some (.long x21), none, some (.int x11), some (.int (x17 + (1 : Int32)))], [], M19)) rfl ?_
          refine pm_ilt (fun y => (55, [some (.ref 23), none, some (.int a2), some (.int x3), some (.int x6), some (.long x21), none, some (.int x11), some (.int y)], [], M19)) (fun x22 => ?_)
          refine pm_irun 1 (σ' := (29, [some (.ref 23), none, some (.int a2), some (.int x3), some (.int x6), some (.long x21), none, some (.int x11), some (.int x22)], [], M19)) rfl ?_
          exact hg14 _ _ _
def sStates_fillConstants (a1 : Int32) (a2 : Int32) (a3 : Int32) (a4 : Int32) (M : pm_M) : Option (pm_M) := pm_bv (sJArr_fillL_26 (0 : Int64) M) fun M1 => pm_lt (pm_sL M1 26 0 (1 : Int64)) fun M2 => pm_loop (fun _ _ => none) (fun (g3 : Int32 → pm_M → Option (pm_M)) x5 M4 => if a3 ≤ x5 then (some M4) else (if ¬ x5 = a4 then (pm_bv (sStates_fillFactors x5 a1 a2 M4) fun M6 => pm_bv (sStates_addStation a1 a2 M6) fun M7 => pm_lt ((x5 + (1 : Int32))) fun x8 => g3 x8 M7) else (pm_lt ((x5 + (1 : Int32))) fun x9 => g3 x9 M4))) 1000000 (0 : Int32) M2
abbrev I_States_fillConstants (sh : Option (pm_M)) (σ : pm_St) : Prop := pm_Im none (pm_Ev 3) pm_T25 none pm_rV sh σ
set_option maxHeartbeats 4000000 in
set_option maxRecDepth 100000 in
theorem sStates_fillConstants_ok (a1 : Int32) (a2 : Int32) (a3 : Int32) (a4 : Int32) (M : pm_M) : ∀ r, sStates_fillConstants a1 a2 a3 a4 M = some r → pm_Ev 4 25 [.ref 23, .int a1, .int a2, .int a3, .int a4] M (pm_rV r).1 (pm_rV r).2 := by
  refine pm_meth (al := [some (.ref 23), some (.int a1), some (.int a2), some (.int a3), some (.int a4), none]) rfl rfl rfl rfl rfl ?_
  unfold sStates_fillConstants
  show I_States_fillConstants _ (0, [some (.ref 23), some (.int a1), some (.int a2), some (.int a3), some (.int a4), none], [], M)
  refine pm_irun 3 (σ' := (5, [some (.ref 23), some (.int a1), some (.int a2), some (.int a3), some (.int a4), none], [.long (0 : Int64), .ref 26], M)) rfl ?_
  refine pm_icV (as := [.ref 26, .long (0 : Int64)]) (rest := []) rfl rfl rfl rfl (Nat.le_of_ble_eq_true rfl) rfl (fun r h => pm_Ev_mono (Nat.le_of_ble_eq_true rfl) (sJArr_fillL_26_ok (0 : Int64) M r h)) (fun M1 => ?_)
  show pm_Im _ _ _ _ _ _ (8, [some (.ref 23), some (.int a1), some (.int a2), some (.int a3), some (.int a4), none], [], M1)
  refine pm_irun 4 (σ' := (14, [some (.ref 23), some (.int a1), some (.int a2), some (.int a3), some (.int a4), none], [.long (1 : Int64), .int (0 : Int32), .ref 26], M1)) rfl ?_
  refine pm_igt (c := pm_in (0 : Int32) 49) (σ1 := (15, [some (.ref 23), some (.int a1), some (.int a2), some (.int a3), some (.int a4), none], [], (pm_sL M1 26 0 (1 : Int64)))) (by decide) rfl ?_
  refine pm_ilt (fun y => (15, [some (.ref 23), some (.int a1), some (.int a2), some (.int a3), some (.int a4), none], [], y)) (fun M2 => ?_)
  refine pm_irun 2 (σ' := (18, [some (.ref 23), some (.int a1), some (.int a2), some (.int a3), some (.int a4), some (.int (0 : Int32))], [], M2)) rfl ?_
  refine pm_iloop (fun (g : Int32 → pm_M → Option (pm_M)) => ∀ (x5 : Int32) (M4 : pm_M), I_States_fillConstants (g x5 M4) (18, [some (.ref 23), some (.int a1), some (.int a2), some (.int a3), some (.int a4), some (.int x5)], [], M4)) (fun _ _ => pm_inone) (fun g3 hg3 x5 M4 => ?_) 1000000 _ _
  show I_States_fillConstants _ (18, [some (.ref 23), some (.int a1), some (.int a2), some (.int a3), some (.int a4), some (.int x5)], [], M4)
  refine pm_irun 2 (σ' := (21, [some (.ref 23), some (.int a1), some (.int a2), some (.int a3), some (.int a4), some (.int x5)], [.int a3, .int x5], M4)) rfl ?_
  refine pm_iite (σ1 := (54, [some (.ref 23), some (.int a1), some (.int a2), some (.int a3), some (.int a4), some (.int x5)], [], M4)) (σ2 := (24, [some (.ref 23), some (.int a1), some (.int a2), some (.int a3), some (.int a4), some (.int x5)], [], M4)) rfl (fun _ => ?_) (fun _ => ?_)
  · exact pm_irV rfl rfl
  · refine pm_irun 2 (σ' := (28, [some (.ref 23), some (.int a1), some (.int a2), some (.int a3), some (.int a4), some (.int x5)], [.int a4, .int x5], M4)) rfl ?_
    refine pm_iite (σ1 := (34, [some (.ref 23), some (.int a1), some (.int a2), some (.int a3), some (.int a4), some (.int x5)], [], M4)) (σ2 := (31, [some (.ref 23), some (.int a1), some (.int a2), some (.int a3), some (.int a4), some (.int x5)], [], M4)) rfl (fun _ => ?_) (fun _ => ?_)
    · refine pm_irun 4 (σ' := (39, [some (.ref 23), some (.int a1), some (.int a2), some (.int a3), some (.int a4), some (.int x5)], [.int a2, .int a1, .int x5, .ref 23], M4)) rfl ?_
      refine pm_icV (as := [.ref 23, .int x5, .int a1, .int a2]) (rest := []) rfl rfl rfl rfl (Nat.le_of_ble_eq_true rfl) rfl (fun r h => pm_Ev_mono (Nat.le_of_ble_eq_true rfl) (sStates_fillFactors_ok x5 a1 a2 M4 r h)) (fun M6 => ?_)
      show pm_Im _ _ _ _ _ _ (42, [some (.ref 23), some (.int a1), some (.int a2), some (.int a3), some (.int a4), some (.int x5)], [], M6)
      refine pm_irun 3 (σ' := (45, [some (.ref 23), some (.int a1), some (.int a2), some (.int a3), some (.int a4), some (.int x5)], [.int a2, .int a1, .ref 23], M6)) rfl ?_
      refine pm_icV (as := [.ref 23, .int a1, .int a2]) (rest := []) rfl rfl rfl rfl (Nat.le_of_ble_eq_true rfl) rfl (fun r h => pm_Ev_mono (Nat.le_of_ble_eq_true rfl) (sStates_addStation_ok a1 a2 M6 r h)) (fun M7 => ?_)
      show pm_Im _ _ _ _ _ _ (48, [some (.ref 23), some (.int a1), some (.int a2), some (.int a3), some (.int a4), some (.int x5)], [], M7)
      refine pm_irun 1 (σ' := (51, [some (.ref 23), some (.int a1), some (.int a2), some (.int a3), some (.int a4), some (.int (x5 + (1 : Int32)))], [], M7)) rfl ?_
      refine pm_ilt (fun y => (51, [some (.ref 23), some (.int a1), some (.int a2), some (.int a3), some (.int a4), some (.int y)], [], M7)) (fun x8 => ?_)
      refine pm_irun 1 (σ' := (18, [some (.ref 23), some (.int a1), some (.int a2), some (.int a3), some (.int a4), some (.int x8)], [], M7)) rfl ?_
      exact hg3 _ _
    · refine pm_irun 2 (σ' := (51, [some (.ref 23), some (.int a1), some (.int a2), some (.int a3), some (.int a4), some (.int (x5 + (1 : Int32)))], [], M4)) rfl ?_
      refine pm_ilt (fun y => (51, [some (.ref 23), some (.int a1), some (.int a2), some (.int a3), some (.int a4), some (.int y)], [], M4)) (fun x9 => ?_)
      refine pm_irun 1 (σ' := (18, [some (.ref 23), some (.int a1), some (.int a2), some (.int a3), some (.int a4), some (.int x9)], [], M4)) rfl ?_
      exact hg3 _ _
def sStates_constantOf (a1 : Int32) (a2 : Int32) (a3 : Int32) (M : pm_M) : Option (Int64 × pm_M) := pm_bv (sStates_fillConstants a1 a2 a3 (-1 : Int32) M) fun M1 => if pm_in ((a1 * (7 : Int32)) + a2) 49 then (some ((M1.2 26 ((a1 * (7 : Int32)) + a2).toNatClampNeg), M1)) else none
abbrev I_States_constantOf (sh : Option (Int64 × pm_M)) (σ : pm_St) : Prop := pm_Im none (pm_Ev 4) pm_T15 (some .long) pm_rL sh σ
set_option maxHeartbeats 4000000 in
set_option maxRecDepth 100000 in
theorem sStates_constantOf_ok (a1 : Int32) (a2 : Int32) (a3 : Int32) (M : pm_M) : ∀ r, sStates_constantOf a1 a2 a3 M = some r → pm_Ev 5 15 [.ref 23, .int a1, .int a2, .int a3] M (pm_rL r).1 (pm_rL r).2 := by
  refine pm_meth (al := [some (.ref 23), some (.int a1), some (.int a2), some (.int a3)]) rfl rfl rfl rfl rfl ?_
  unfold sStates_constantOf
  show I_States_constantOf _ (0, [some (.ref 23), some (.int a1), some (.int a2), some (.int a3)], [], M)
  refine pm_irun 5 (σ' := (5, [some (.ref 23), some (.int a1), some (.int a2), some (.int a3)], [.int (-1 : Int32), .int a3, .int a2, .int a1, .ref 23], M)) rfl ?_
  refine pm_icV (as := [.ref 23, .int a1, .int a2, .int a3, .int (-1 : Int32)]) (rest := []) rfl rfl rfl rfl (Nat.le_of_ble_eq_true rfl) rfl (fun r h => pm_Ev_mono (Nat.le_of_ble_eq_true rfl) (sStates_fillConstants_ok a1 a2 a3 (-1 : Int32) M r h)) (fun M1 => ?_)
  show pm_Im _ _ _ _ _ _ (8, [some (.ref 23), some (.int a1), some (.int a2), some (.int a3)], [], M1)
  refine pm_irun 7 (σ' := (18, [some (.ref 23), some (.int a1), some (.int a2), some (.int a3)], [.int ((a1 * (7 : Int32)) + a2), .ref 26], M1)) rfl ?_
  refine pm_igd (σ1 := (19, [some (.ref 23), some (.int a1), some (.int a2), some (.int a3)], [.long (M1.2 26 ((a1 * (7 : Int32)) + a2).toNatClampNeg)], M1)) rfl (fun _ => ?_)
  exact pm_irL rfl rfl
def sC_fraction (a1 : Int64) (a2 : Int64) (a3 : Int32) (M : pm_M) : Option (Int64 × pm_M) := pm_bd (sC_commonDivisor a1 a2 M) fun v2 M1 => if (lg_cmp a2 (0 : Int64)) ≤ 0 then (some ((-4611686018427387904 : Int64), M1)) else (if 0 < (lg_cmp v2 (0 : Int64)) then (if ¬ a3 = 0 then (if ¬ v2 = 0 then (some ((a2 / v2), M1)) else none) else (if ¬ v2 = 0 then (some ((a1 / v2), M1)) else none)) else (some ((-4611686018427387904 : Int64), M1)))
abbrev I_C_fraction (sh : Option (Int64 × pm_M)) (σ : pm_St) : Prop := pm_Im none (pm_Ev 1) pm_T115 (some .long) pm_rL sh σ
set_option maxHeartbeats 4000000 in
set_option maxRecDepth 100000 in
theorem sC_fraction_ok (a1 : Int64) (a2 : Int64) (a3 : Int32) (M : pm_M) : ∀ r, sC_fraction a1 a2 a3 M = some r → pm_Ev 2 115 [.long a1, .long a2, .int a3] M (pm_rL r).1 (pm_rL r).2 := by
  refine pm_meth (al := [some (.long a1), none, some (.long a2), none, some (.int a3), none, none]) rfl rfl rfl rfl rfl ?_
  unfold sC_fraction
  show I_C_fraction _ (0, [some (.long a1), none, some (.long a2), none, some (.int a3), none, none], [], M)
  refine pm_irun 2 (σ' := (2, [some (.long a1), none, some (.long a2), none, some (.int a3), none, none], [.long a2, .long a1], M)) rfl ?_
  refine pm_icL (as := [.long a1, .long a2]) (rest := []) rfl rfl rfl rfl (Nat.le_of_ble_eq_true rfl) rfl (fun r h => pm_Ev_mono (Nat.le_of_ble_eq_true rfl) (sC_commonDivisor_ok a1 a2 M r h)) (fun v2 M1 => ?_)
  show pm_Im _ _ _ _ _ _ (5, [some (.long a1), none, some (.long a2), none, some (.int a3), none, none], [.long v2], M1)
  refine pm_irun 1 (σ' := (7, [some (.long a1), none, some (.long a2), none, some (.int a3), some (.long v2), none], [], M1)) rfl ?_
  refine pm_irun 3 (σ' := (10, [some (.long a1), none, some (.long a2), none, some (.int a3), some (.long v2), none], [.int (lg_cmp a2 (0 : Int64))], M1)) rfl ?_
  refine pm_iite (σ1 := (20, [some (.long a1), none, some (.long a2), none, some (.int a3), some (.long v2), none], [], M1)) (σ2 := (13, [some (.long a1), none, some (.long a2), none, some (.int a3), some (.long v2), none], [], M1)) rfl (fun _ => ?_) (fun _ => ?_)
  · refine pm_irun 1 (σ' := (23, [some (.long a1), none, some (.long a2), none, some (.int a3), some (.long v2), none], [.long (-4611686018427387904 : Int64)], M1)) rfl ?_
    exact pm_irL rfl rfl
  · refine pm_irun 3 (σ' := (17, [some (.long a1), none, some (.long a2), none, some (.int a3), some (.long v2), none], [.int (lg_cmp v2 (0 : Int64))], M1)) rfl ?_
    refine pm_iite (σ1 := (24, [some (.long a1), none, some (.long a2), none, some (.int a3), some (.long v2), none], [], M1)) (σ2 := (20, [some (.long a1), none, some (.long a2), none, some (.int a3), some (.long v2), none], [], M1)) rfl (fun _ => ?_) (fun _ => ?_)
    · refine pm_irun 1 (σ' := (26, [some (.long a1), none, some (.long a2), none, some (.int a3), some (.long v2), none], [.int a3], M1)) rfl ?_
      refine pm_iite (σ1 := (36, [some (.long a1), none, some (.long a2), none, some (.int a3), some (.long v2), none], [], M1)) (σ2 := (29, [some (.long a1), none, some (.long a2), none, some (.int a3), some (.long v2), none], [], M1)) rfl (fun _ => ?_) (fun _ => ?_)
      · refine pm_irun 2 (σ' := (39, [some (.long a1), none, some (.long a2), none, some (.int a3), some (.long v2), none], [.long v2, .long a2], M1)) rfl ?_
        refine pm_igd (σ1 := (40, [some (.long a1), none, some (.long a2), none, some (.int a3), some (.long v2), none], [.long (a2 / v2)], M1)) rfl (fun _ => ?_)
        exact pm_irL rfl rfl
      · refine pm_irun 2 (σ' := (32, [some (.long a1), none, some (.long a2), none, some (.int a3), some (.long v2), none], [.long v2, .long a1], M1)) rfl ?_
        refine pm_igd (σ1 := (33, [some (.long a1), none, some (.long a2), none, some (.int a3), some (.long v2), none], [.long (a1 / v2)], M1)) rfl (fun _ => ?_)
        refine pm_irun 1 (σ' := (40, [some (.long a1), none, some (.long a2), none, some (.int a3), some (.long v2), none], [.long (a1 / v2)], M1)) rfl ?_
        exact pm_irL rfl rfl
    · refine pm_irun 1 (σ' := (23, [some (.long a1), none, some (.long a2), none, some (.int a3), some (.long v2), none], [.long (-4611686018427387904 : Int64)], M1)) rfl ?_
      exact pm_irL rfl rfl
def sC_constant (a1 : Int32) (a2 : Int32) (a3 : Int32) (a4 : Int32) (M : pm_M) : Option (Int64 × pm_M) := if a1 < 0 then (some ((-4611686018427387904 : Int64), M)) else (if (6 : Int32) < a1 then (some ((-4611686018427387904 : Int64), M)) else (if a2 < 0 then (some ((-4611686018427387904 : Int64), M)) else (if (6 : Int32) < a2 then (some ((-4611686018427387904 : Int64), M)) else (if (a1 + a2) ≤ (8 : Int32) then (if a3 < 0 then (some ((-4611686018427387904 : Int64), M)) else (if (M.1 1 0) < a3 then (some ((-4611686018427387904 : Int64), M)) else (pm_bd (sC_isLine a4 M) fun v2 M1 => if v2 = 0 then (some ((-4611686018427387904 : Int64), M1)) else (pm_bd (sTours_isSound M1) fun v4 M3 => if ¬ v4 = 0 then (pm_jn (fun (M6 : pm_M) => pm_jn (fun (M8 : pm_M) => pm_bd (sStates_constantOf a1 a2 a3 M8) fun v10 M9 => pm_bd (sC_factorial a1 M9) fun v12 M11 => pm_bd (sC_factorial a2 M11) fun v14 M13 => pm_bd (sC_fraction v10 (v12 * v14) a4 M13) fun v16 M15 => some (v16, M15)) fun (j7 : pm_M → Option (Int64 × pm_M)) => if a2 ≤ 0 then (j7 M6) else (if ¬ (M6.1 5 1) = 0 then (j7 M6) else (some ((-4611686018427387904 : Int64), M6)))) fun (j5 : pm_M → Option (Int64 × pm_M)) => if a1 ≤ 0 then (j5 M3) else (if (M3.1 5 0) = 0 then (some ((-4611686018427387904 : Int64), M3)) else (j5 M3))) else (some ((-4611686018427387904 : Int64), M3)))))) else (some ((-4611686018427387904 : Int64), M))))))
abbrev I_C_constant (sh : Option (Int64 × pm_M)) (σ : pm_St) : Prop := pm_Im none (pm_Ev 5) pm_T71 (some .long) pm_rL sh σ
set_option maxHeartbeats 4000000 in
set_option maxRecDepth 100000 in
theorem sC_constant_ok (a1 : Int32) (a2 : Int32) (a3 : Int32) (a4 : Int32) (M : pm_M) : ∀ r, sC_constant a1 a2 a3 a4 M = some r → pm_Ev 6 71 [.ref 0, .int a1, .int a2, .int a3, .int a4] M (pm_rL r).1 (pm_rL r).2 := by
  refine pm_meth (al := [some (.ref 0), some (.int a1), some (.int a2), some (.int a3), some (.int a4), none, none]) rfl rfl rfl rfl rfl ?_
  unfold sC_constant
  show I_C_constant _ (0, [some (.ref 0), some (.int a1), some (.int a2), some (.int a3), some (.int a4), none, none], [], M)
  refine pm_irun 1 (σ' := (1, [some (.ref 0), some (.int a1), some (.int a2), some (.int a3), some (.int a4), none, none], [.int a1], M)) rfl ?_
  refine pm_iite (σ1 := (28, [some (.ref 0), some (.int a1), some (.int a2), some (.int a3), some (.int a4), none, none], [], M)) (σ2 := (4, [some (.ref 0), some (.int a1), some (.int a2), some (.int a3), some (.int a4), none, none], [], M)) rfl (fun _ => ?_) (fun _ => ?_)
  · refine pm_irun 1 (σ' := (31, [some (.ref 0), some (.int a1), some (.int a2), some (.int a3), some (.int a4), none, none], [.long (-4611686018427387904 : Int64)], M)) rfl ?_
    exact pm_irL rfl rfl
  · refine pm_irun 2 (σ' := (7, [some (.ref 0), some (.int a1), some (.int a2), some (.int a3), some (.int a4), none, none], [.int (6 : Int32), .int a1], M)) rfl ?_
    refine pm_iite (σ1 := (28, [some (.ref 0), some (.int a1), some (.int a2), some (.int a3), some (.int a4), none, none], [], M)) (σ2 := (10, [some (.ref 0), some (.int a1), some (.int a2), some (.int a3), some (.int a4), none, none], [], M)) rfl (fun _ => ?_) (fun _ => ?_)
    · refine pm_irun 1 (σ' := (31, [some (.ref 0), some (.int a1), some (.int a2), some (.int a3), some (.int a4), none, none], [.long (-4611686018427387904 : Int64)], M)) rfl ?_
      exact pm_irL rfl rfl
    · refine pm_irun 1 (σ' := (11, [some (.ref 0), some (.int a1), some (.int a2), some (.int a3), some (.int a4), none, none], [.int a2], M)) rfl ?_
      refine pm_iite (σ1 := (28, [some (.ref 0), some (.int a1), some (.int a2), some (.int a3), some (.int a4), none, none], [], M)) (σ2 := (14, [some (.ref 0), some (.int a1), some (.int a2), some (.int a3), some (.int a4), none, none], [], M)) rfl (fun _ => ?_) (fun _ => ?_)
      · refine pm_irun 1 (σ' := (31, [some (.ref 0), some (.int a1), some (.int a2), some (.int a3), some (.int a4), none, none], [.long (-4611686018427387904 : Int64)], M)) rfl ?_
        exact pm_irL rfl rfl
      · refine pm_irun 2 (σ' := (17, [some (.ref 0), some (.int a1), some (.int a2), some (.int a3), some (.int a4), none, none], [.int (6 : Int32), .int a2], M)) rfl ?_
        refine pm_iite (σ1 := (28, [some (.ref 0), some (.int a1), some (.int a2), some (.int a3), some (.int a4), none, none], [], M)) (σ2 := (20, [some (.ref 0), some (.int a1), some (.int a2), some (.int a3), some (.int a4), none, none], [], M)) rfl (fun _ => ?_) (fun _ => ?_)
        · refine pm_irun 1 (σ' := (31, [some (.ref 0), some (.int a1), some (.int a2), some (.int a3), some (.int a4), none, none], [.long (-4611686018427387904 : Int64)], M)) rfl ?_
          exact pm_irL rfl rfl
        · refine pm_irun 4 (σ' := (25, [some (.ref 0), some (.int a1), some (.int a2), some (.int a3), some (.int a4), none, none], [.int (8 : Int32), .int (a1 + a2)], M)) rfl ?_
          refine pm_iite (σ1 := (32, [some (.ref 0), some (.int a1), some (.int a2), some (.int a3), some (.int a4), none, none], [], M)) (σ2 := (28, [some (.ref 0), some (.int a1), some (.int a2), some (.int a3), some (.int a4), none, none], [], M)) rfl (fun _ => ?_) (fun _ => ?_)
          · refine pm_irun 1 (σ' := (33, [some (.ref 0), some (.int a1), some (.int a2), some (.int a3), some (.int a4), none, none], [.int a3], M)) rfl ?_
            refine pm_iite (σ1 := (65, [some (.ref 0), some (.int a1), some (.int a2), some (.int a3), some (.int a4), none, none], [], M)) (σ2 := (36, [some (.ref 0), some (.int a1), some (.int a2), some (.int a3), some (.int a4), none, none], [], M)) rfl (fun _ => ?_) (fun _ => ?_)
            · refine pm_irun 1 (σ' := (68, [some (.ref 0), some (.int a1), some (.int a2), some (.int a3), some (.int a4), none, none], [.long (-4611686018427387904 : Int64)], M)) rfl ?_
              exact pm_irL rfl rfl
            · refine pm_irun 4 (σ' := (44, [some (.ref 0), some (.int a1), some (.int a2), some (.int a3), some (.int a4), none, none], [.int (M.1 1 0), .int a3], M)) rfl ?_
              refine pm_iite (σ1 := (65, [some (.ref 0), some (.int a1), some (.int a2), some (.int a3), some (.int a4), none, none], [], M)) (σ2 := (47, [some (.ref 0), some (.int a1), some (.int a2), some (.int a3), some (.int a4), none, none], [], M)) rfl (fun _ => ?_) (fun _ => ?_)
              · refine pm_irun 1 (σ' := (68, [some (.ref 0), some (.int a1), some (.int a2), some (.int a3), some (.int a4), none, none], [.long (-4611686018427387904 : Int64)], M)) rfl ?_
                exact pm_irL rfl rfl
              · refine pm_irun 1 (σ' := (49, [some (.ref 0), some (.int a1), some (.int a2), some (.int a3), some (.int a4), none, none], [.int a4], M)) rfl ?_
                refine pm_icI (as := [.int a4]) (rest := []) rfl rfl rfl rfl (Nat.le_of_ble_eq_true rfl) rfl (fun r h => pm_Ev_mono (Nat.le_of_ble_eq_true rfl) (sC_isLine_ok a4 M r h)) (fun v2 M1 => ?_)
                show pm_Im _ _ _ _ _ _ (52, [some (.ref 0), some (.int a1), some (.int a2), some (.int a3), some (.int a4), none, none], [.int v2], M1)
                refine pm_iite (σ1 := (65, [some (.ref 0), some (.int a1), some (.int a2), some (.int a3), some (.int a4), none, none], [], M1)) (σ2 := (55, [some (.ref 0), some (.int a1), some (.int a2), some (.int a3), some (.int a4), none, none], [], M1)) rfl (fun _ => ?_) (fun _ => ?_)
                · refine pm_irun 1 (σ' := (68, [some (.ref 0), some (.int a1), some (.int a2), some (.int a3), some (.int a4), none, none], [.long (-4611686018427387904 : Int64)], M1)) rfl ?_
                  exact pm_irL rfl rfl
                · refine pm_irun 2 (σ' := (59, [some (.ref 0), some (.int a1), some (.int a2), some (.int a3), some (.int a4), none, none], [.ref 15], M1)) rfl ?_
                  refine pm_icI (as := [.ref 15]) (rest := []) rfl rfl rfl rfl (Nat.le_of_ble_eq_true rfl) rfl (fun r h => pm_Ev_mono (Nat.le_of_ble_eq_true rfl) (sTours_isSound_ok M1 r h)) (fun v4 M3 => ?_)
                  show pm_Im _ _ _ _ _ _ (62, [some (.ref 0), some (.int a1), some (.int a2), some (.int a3), some (.int a4), none, none], [.int v4], M3)
                  refine pm_iite (σ1 := (69, [some (.ref 0), some (.int a1), some (.int a2), some (.int a3), some (.int a4), none, none], [], M3)) (σ2 := (65, [some (.ref 0), some (.int a1), some (.int a2), some (.int a3), some (.int a4), none, none], [], M3)) rfl (fun _ => ?_) (fun _ => ?_)
                  · refine pm_irun 1 (σ' := (70, [some (.ref 0), some (.int a1), some (.int a2), some (.int a3), some (.int a4), none, none], [.int a1], M3)) rfl ?_
                    refine pm_ijn (fun (g : pm_M → Option (Int64 × pm_M)) => ∀ (M6 : pm_M), I_C_constant (g M6) (85, [some (.ref 0), some (.int a1), some (.int a2), some (.int a3), some (.int a4), none, none], [], M6)) (fun (M6 : pm_M) => ?_) (fun j5 hj5 => ?_)
                    · show I_C_constant _ (85, [some (.ref 0), some (.int a1), some (.int a2), some (.int a3), some (.int a4), none, none], [], M6)
                      refine pm_irun 1 (σ' := (86, [some (.ref 0), some (.int a1), some (.int a2), some (.int a3), some (.int a4), none, none], [.int a2], M6)) rfl ?_
                      refine pm_ijn (fun (g : pm_M → Option (Int64 × pm_M)) => ∀ (M8 : pm_M), I_C_constant (g M8) (105, [some (.ref 0), some (.int a1), some (.int a2), some (.int a3), some (.int a4), none, none], [], M8)) (fun (M8 : pm_M) => ?_) (fun j7 hj7 => ?_)
                      · show I_C_constant _ (105, [some (.ref 0), some (.int a1), some (.int a2), some (.int a3), some (.int a4), none, none], [], M8)
                        refine pm_irun 5 (σ' := (112, [some (.ref 0), some (.int a1), some (.int a2), some (.int a3), some (.int a4), none, none], [.int a3, .int a2, .int a1, .ref 23], M8)) rfl ?_
                        refine pm_icL (as := [.ref 23, .int a1, .int a2, .int a3]) (rest := []) rfl rfl rfl rfl (Nat.le_of_ble_eq_true rfl) rfl (fun r h => pm_Ev_mono (Nat.le_of_ble_eq_true rfl) (sStates_constantOf_ok a1 a2 a3 M8 r h)) (fun v10 M9 => ?_)
                        show pm_Im _ _ _ _ _ _ (115, [some (.ref 0), some (.int a1), some (.int a2), some (.int a3), some (.int a4), none, none], [.long v10], M9)
                        refine pm_irun 1 (σ' := (117, [some (.ref 0), some (.int a1), some (.int a2), some (.int a3), some (.int a4), some (.long v10), none], [], M9)) rfl ?_
                        refine pm_irun 2 (σ' := (120, [some (.ref 0), some (.int a1), some (.int a2), some (.int a3), some (.int a4), some (.long v10), none], [.int a1, .long v10], M9)) rfl ?_
                        refine pm_icL (as := [.int a1]) (rest := [.long v10]) rfl rfl rfl rfl (Nat.le_of_ble_eq_true rfl) rfl (fun r h => pm_Ev_mono (Nat.le_of_ble_eq_true rfl) (sC_factorial_ok a1 M9 r h)) (fun v12 M11 => ?_)
                        show pm_Im _ _ _ _ _ _ (123, [some (.ref 0), some (.int a1), some (.int a2), some (.int a3), some (.int a4), some (.long v10), none], [.long v12, .long v10], M11)
                        refine pm_irun 1 (σ' := (124, [some (.ref 0), some (.int a1), some (.int a2), some (.int a3), some (.int a4), some (.long v10), none], [.int a2, .long v12, .long v10], M11)) rfl ?_
                        refine pm_icL (as := [.int a2]) (rest := [.long v12, .long v10]) rfl rfl rfl rfl (Nat.le_of_ble_eq_true rfl) rfl (fun r h => pm_Ev_mono (Nat.le_of_ble_eq_true rfl) (sC_factorial_ok a2 M11 r h)) (fun v14 M13 => ?_)
                        show pm_Im _ _ _ _ _ _ (127, [some (.ref 0), some (.int a1), some (.int a2), some (.int a3), some (.int a4), some (.long v10), none], [.long v14, .long v12, .long v10], M13)
                        refine pm_irun 2 (σ' := (130, [some (.ref 0), some (.int a1), some (.int a2), some (.int a3), some (.int a4), some (.long v10), none], [.int a4, .long (v12 * v14), .long v10], M13)) rfl ?_
                        refine pm_icL (as := [.long v10, .long (v12 * v14), .int a4]) (rest := []) rfl rfl rfl rfl (Nat.le_of_ble_eq_true rfl) rfl (fun r h => pm_Ev_mono (Nat.le_of_ble_eq_true rfl) (sC_fraction_ok v10 (v12 * v14) a4 M13 r h)) (fun v16 M15 => ?_)
                        show pm_Im _ _ _ _ _ _ (133, [some (.ref 0), some (.int a1), some (.int a2), some (.int a3), some (.int a4), some (.long v10), none], [.long v16], M15)
                        exact pm_irL rfl rfl
                      refine pm_iite (σ1 := (105, [some (.ref 0), some (.int a1), some (.int a2), some (.int a3), some (.int a4), none, none], [], M6)) (σ2 := (89, [some (.ref 0), some (.int a1), some (.int a2), some (.int a3), some (.int a4), none, none], [], M6)) rfl (fun _ => ?_) (fun _ => ?_)
                      · exact hj7 _
                      · refine pm_irun 4 (σ' := (97, [some (.ref 0), some (.int a1), some (.int a2), some (.int a3), some (.int a4), none, none], [.int (1 : Int32), .ref 5], M6)) rfl ?_
                        refine pm_igt (c := pm_in (1 : Int32) 2) (σ1 := (98, [some (.ref 0), some (.int a1), some (.int a2), some (.int a3), some (.int a4), none, none], [.int (M6.1 5 1)], M6)) (by decide) rfl ?_
                        refine pm_iite (σ1 := (105, [some (.ref 0), some (.int a1), some (.int a2), some (.int a3), some (.int a4), none, none], [], M6)) (σ2 := (101, [some (.ref 0), some (.int a1), some (.int a2), some (.int a3), some (.int a4), none, none], [], M6)) rfl (fun _ => ?_) (fun _ => ?_)
                        · exact hj7 _
                        · refine pm_irun 1 (σ' := (104, [some (.ref 0), some (.int a1), some (.int a2), some (.int a3), some (.int a4), none, none], [.long (-4611686018427387904 : Int64)], M6)) rfl ?_
                          exact pm_irL rfl rfl
                    refine pm_iite (σ1 := (85, [some (.ref 0), some (.int a1), some (.int a2), some (.int a3), some (.int a4), none, none], [], M3)) (σ2 := (73, [some (.ref 0), some (.int a1), some (.int a2), some (.int a3), some (.int a4), none, none], [], M3)) rfl (fun _ => ?_) (fun _ => ?_)
                    · exact hj5 _
                    · refine pm_irun 4 (σ' := (81, [some (.ref 0), some (.int a1), some (.int a2), some (.int a3), some (.int a4), none, none], [.int (0 : Int32), .ref 5], M3)) rfl ?_
                      refine pm_igt (c := pm_in (0 : Int32) 2) (σ1 := (82, [some (.ref 0), some (.int a1), some (.int a2), some (.int a3), some (.int a4), none, none], [.int (M3.1 5 0)], M3)) (by decide) rfl ?_
                      refine pm_iite (σ1 := (101, [some (.ref 0), some (.int a1), some (.int a2), some (.int a3), some (.int a4), none, none], [], M3)) (σ2 := (85, [some (.ref 0), some (.int a1), some (.int a2), some (.int a3), some (.int a4), none, none], [], M3)) rfl (fun _ => ?_) (fun _ => ?_)
                      · refine pm_irun 1 (σ' := (104, [some (.ref 0), some (.int a1), some (.int a2), some (.int a3), some (.int a4), none, none], [.long (-4611686018427387904 : Int64)], M3)) rfl ?_
                        exact pm_irL rfl rfl
                      · exact hj5 _
                  · refine pm_irun 1 (σ' := (68, [some (.ref 0), some (.int a1), some (.int a2), some (.int a3), some (.int a4), none, none], [.long (-4611686018427387904 : Int64)], M3)) rfl ?_
                    exact pm_irL rfl rfl
          · refine pm_irun 1 (σ' := (31, [some (.ref 0), some (.int a1), some (.int a2), some (.int a3), some (.int a4), none, none], [.long (-4611686018427387904 : Int64)], M)) rfl ?_
            exact pm_irL rfl rfl
def sR_choose (a1 : Int32) (a2 : Int32) (M : pm_M) : Option (Int64 × pm_M) := if pm_in a1 9 then (if pm_in a2 9 then (if ¬ (M.2 61 a2.toNatClampNeg) = 0 then (if pm_in (a1 - a2) 9 then (if ¬ (M.2 61 (a1 - a2).toNatClampNeg) = 0 then (some ((((M.2 61 a1.toNatClampNeg) / (M.2 61 a2.toNatClampNeg)) / (M.2 61 (a1 - a2).toNatClampNeg)), M)) else none) else none) else none) else none) else none
abbrev I_R_choose (sh : Option (Int64 × pm_M)) (σ : pm_St) : Prop := pm_Im none (pm_Ev 0) pm_T152 (some .long) pm_rL sh σ
set_option maxHeartbeats 4000000 in
set_option maxRecDepth 100000 in
theorem sR_choose_ok (a1 : Int32) (a2 : Int32) (M : pm_M) : ∀ r, sR_choose a1 a2 M = some r → pm_Ev 1 152 [.ref 49, .int a1, .int a2] M (pm_rL r).1 (pm_rL r).2 := by
  refine pm_meth (al := [some (.ref 49), some (.int a1), some (.int a2)]) rfl rfl rfl rfl rfl ?_
  unfold sR_choose
  show I_R_choose _ (0, [some (.ref 49), some (.int a1), some (.int a2)], [], M)
  refine pm_irun 3 (σ' := (5, [some (.ref 49), some (.int a1), some (.int a2)], [.int a1, .ref 61], M)) rfl ?_
  refine pm_igd (σ1 := (6, [some (.ref 49), some (.int a1), some (.int a2)], [.long (M.2 61 a1.toNatClampNeg)], M)) rfl (fun _ => ?_)
  refine pm_irun 3 (σ' := (11, [some (.ref 49), some (.int a1), some (.int a2)], [.int a2, .ref 61, .long (M.2 61 a1.toNatClampNeg)], M)) rfl ?_
  refine pm_igd (σ1 := (12, [some (.ref 49), some (.int a1), some (.int a2)], [.long (M.2 61 a2.toNatClampNeg), .long (M.2 61 a1.toNatClampNeg)], M)) rfl (fun _ => ?_)
  refine pm_igd (σ1 := (13, [some (.ref 49), some (.int a1), some (.int a2)], [.long ((M.2 61 a1.toNatClampNeg) / (M.2 61 a2.toNatClampNeg))], M)) rfl (fun _ => ?_)
  refine pm_irun 5 (σ' := (20, [some (.ref 49), some (.int a1), some (.int a2)], [.int (a1 - a2), .ref 61, .long ((M.2 61 a1.toNatClampNeg) / (M.2 61 a2.toNatClampNeg))], M)) rfl ?_
  refine pm_igd (σ1 := (21, [some (.ref 49), some (.int a1), some (.int a2)], [.long (M.2 61 (a1 - a2).toNatClampNeg), .long ((M.2 61 a1.toNatClampNeg) / (M.2 61 a2.toNatClampNeg))], M)) rfl (fun _ => ?_)
  refine pm_igd (σ1 := (22, [some (.ref 49), some (.int a1), some (.int a2)], [.long (((M.2 61 a1.toNatClampNeg) / (M.2 61 a2.toNatClampNeg)) / (M.2 61 (a1 - a2).toNatClampNeg))], M)) rfl (fun _ => ?_)
  exact pm_irL rfl rfl
def sR_power (a1 : Int64) (a2 : Int32) (M : pm_M) : Option (Int64 × pm_M) := pm_loop (fun _ _ _ => none) (fun (g1 : Int64 → Int32 → pm_M → Option (Int64 × pm_M)) x3 x4 M2 => if a2 ≤ x4 then (some (x3, M2)) else (pm_lt ((x3 * a1)) fun x5 => pm_lt ((x4 + (1 : Int32))) fun x6 => g1 x5 x6 M2)) 1000000 (1 : Int64) (0 : Int32) M
abbrev I_R_power (sh : Option (Int64 × pm_M)) (σ : pm_St) : Prop := pm_Im none (pm_Ev 0) pm_T150 (some .long) pm_rL sh σ
set_option maxHeartbeats 4000000 in
set_option maxRecDepth 100000 in
theorem sR_power_ok (a1 : Int64) (a2 : Int32) (M : pm_M) : ∀ r, sR_power a1 a2 M = some r → pm_Ev 1 150 [.long a1, .int a2] M (pm_rL r).1 (pm_rL r).2 := by
  refine pm_meth (al := [some (.long a1), none, some (.int a2), none, none, none]) rfl rfl rfl rfl rfl ?_
  unfold sR_power
  show I_R_power _ (0, [some (.long a1), none, some (.int a2), none, none, none], [], M)
  refine pm_irun 2 (σ' := (2, [some (.long a1), none, some (.int a2), some (.long (1 : Int64)), none, none], [], M)) rfl ?_
  refine pm_irun 2 (σ' := (5, [some (.long a1), none, some (.int a2), some (.long (1 : Int64)), none, some (.int (0 : Int32))], [], M)) rfl ?_
  refine pm_iloop (fun (g : Int64 → Int32 → pm_M → Option (Int64 × pm_M)) => ∀ (x3 : Int64) (x4 : Int32) (M2 : pm_M), I_R_power (g x3 x4 M2) (5, [some (.long a1), none, some (.int a2), some (.long x3), none, some (.int x4)], [], M2)) (fun _ _ _ => pm_inone) (fun g1 hg1 x3 x4 M2 => ?_) 1000000 _ _ _
  show I_R_power _ (5, [some (.long a1), none, some (.int a2), some (.long x3), none, some (.int x4)], [], M2)
  refine pm_irun 2 (σ' := (8, [some (.long a1), none, some (.int a2), some (.long x3), none, some (.int x4)], [.int a2, .int x4], M2)) rfl ?_
  refine pm_iite (σ1 := (21, [some (.long a1), none, some (.int a2), some (.long x3), none, some (.int x4)], [], M2)) (σ2 := (11, [some (.long a1), none, some (.int a2), some (.long x3), none, some (.int x4)], [], M2)) rfl (fun _ => ?_) (fun _ => ?_)
  · refine pm_irun 1 (σ' := (22, [some (.long a1), none, some (.int a2), some (.long x3), none, some (.int x4)], [.long x3], M2)) rfl ?_
    exact pm_irL rfl rfl
  · refine pm_irun 4 (σ' := (15, [some (.long a1), none, some (.int a2), some (.long (x3 * a1)), none, some (.int x4)], [], M2)) rfl ?_
    refine pm_ilt (fun y => (15, [some (.long a1), none, some (.int a2), some (.long y), none, some (.int x4)], [], M2)) (fun x5 => ?_)
    refine pm_irun 1 (σ' := (18, [some (.long a1), none, some (.int a2), some (.long x5), none, some (.int (x4 + (1 : Int32)))], [], M2)) rfl ?_
    refine pm_ilt (fun y => (18, [some (.long a1), none, some (.int a2), some (.long x5), none, some (.int y)], [], M2)) (fun x6 => ?_)
    refine pm_irun 1 (σ' := (5, [some (.long a1), none, some (.int a2), some (.long x5), none, some (.int x6)], [], M2)) rfl ?_
    exact hg1 _ _ _
def sR_heap (a1 : Int32) (a2 : Int32) (a3 : Int32) (M : pm_M) : Option (Int64 × pm_M) := if pm_in a1 10 then (pm_bd (sR_power (M.2 60 a1.toNatClampNeg) a2 M) fun v2 M1 => if pm_in ((5 : Int32) + a1) 10 then (pm_bd (sR_power (M1.2 60 ((5 : Int32) + a1).toNatClampNeg) a3 M1) fun v4 M3 => if pm_in a1 5 then (if ¬ (M3.1 50 a1.toNatClampNeg) = (3 : Int32) then (if pm_in (a2 + a3) 9 then (some (((v2 * v4) * (M3.2 61 (a2 + a3).toNatClampNeg)), M3)) else none) else (some (((v2 * v4) * (1 : Int64)), M3))) else none) else none) else none
abbrev I_R_heap (sh : Option (Int64 × pm_M)) (σ : pm_St) : Prop := pm_Im none (pm_Ev 1) pm_T151 (some .long) pm_rL sh σ
set_option maxHeartbeats 4000000 in
set_option maxRecDepth 100000 in
theorem sR_heap_ok (a1 : Int32) (a2 : Int32) (a3 : Int32) (M : pm_M) : ∀ r, sR_heap a1 a2 a3 M = some r → pm_Ev 2 151 [.ref 49, .int a1, .int a2, .int a3] M (pm_rL r).1 (pm_rL r).2 := by
  refine pm_meth (al := [some (.ref 49), some (.int a1), some (.int a2), some (.int a3)]) rfl rfl rfl rfl rfl ?_
  unfold sR_heap
  show I_R_heap _ (0, [some (.ref 49), some (.int a1), some (.int a2), some (.int a3)], [], M)
  refine pm_irun 3 (σ' := (5, [some (.ref 49), some (.int a1), some (.int a2), some (.int a3)], [.int a1, .ref 60], M)) rfl ?_
  refine pm_igd (σ1 := (6, [some (.ref 49), some (.int a1), some (.int a2), some (.int a3)], [.long (M.2 60 a1.toNatClampNeg)], M)) rfl (fun _ => ?_)
  refine pm_irun 1 (σ' := (7, [some (.ref 49), some (.int a1), some (.int a2), some (.int a3)], [.int a2, .long (M.2 60 a1.toNatClampNeg)], M)) rfl ?_
  refine pm_icL (as := [.long (M.2 60 a1.toNatClampNeg), .int a2]) (rest := []) rfl rfl rfl rfl (Nat.le_of_ble_eq_true rfl) rfl (fun r h => pm_Ev_mono (Nat.le_of_ble_eq_true rfl) (sR_power_ok (M.2 60 a1.toNatClampNeg) a2 M r h)) (fun v2 M1 => ?_)
  show pm_Im _ _ _ _ _ _ (10, [some (.ref 49), some (.int a1), some (.int a2), some (.int a3)], [.long v2], M1)
  refine pm_irun 5 (σ' := (17, [some (.ref 49), some (.int a1), some (.int a2), some (.int a3)], [.int ((5 : Int32) + a1), .ref 60, .long v2], M1)) rfl ?_
  refine pm_igd (σ1 := (18, [some (.ref 49), some (.int a1), some (.int a2), some (.int a3)], [.long (M1.2 60 ((5 : Int32) + a1).toNatClampNeg), .long v2], M1)) rfl (fun _ => ?_)
  refine pm_irun 1 (σ' := (19, [some (.ref 49), some (.int a1), some (.int a2), some (.int a3)], [.int a3, .long (M1.2 60 ((5 : Int32) + a1).toNatClampNeg), .long v2], M1)) rfl ?_
  refine pm_icL (as := [.long (M1.2 60 ((5 : Int32) + a1).toNatClampNeg), .int a3]) (rest := [.long v2]) rfl rfl rfl rfl (Nat.le_of_ble_eq_true rfl) rfl (fun r h => pm_Ev_mono (Nat.le_of_ble_eq_true rfl) (sR_power_ok (M1.2 60 ((5 : Int32) + a1).toNatClampNeg) a3 M1 r h)) (fun v4 M3 => ?_)
  show pm_Im _ _ _ _ _ _ (22, [some (.ref 49), some (.int a1), some (.int a2), some (.int a3)], [.long v4, .long v2], M3)
  refine pm_irun 4 (σ' := (28, [some (.ref 49), some (.int a1), some (.int a2), some (.int a3)], [.int a1, .ref 50, .long (v2 * v4)], M3)) rfl ?_
  refine pm_igd (σ1 := (29, [some (.ref 49), some (.int a1), some (.int a2), some (.int a3)], [.int (M3.1 50 a1.toNatClampNeg), .long (v2 * v4)], M3)) rfl (fun _ => ?_)
  refine pm_irun 1 (σ' := (30, [some (.ref 49), some (.int a1), some (.int a2), some (.int a3)], [.int (3 : Int32), .int (M3.1 50 a1.toNatClampNeg), .long (v2 * v4)], M3)) rfl ?_
  refine pm_iite (σ1 := (37, [some (.ref 49), some (.int a1), some (.int a2), some (.int a3)], [.long (v2 * v4)], M3)) (σ2 := (33, [some (.ref 49), some (.int a1), some (.int a2), some (.int a3)], [.long (v2 * v4)], M3)) rfl (fun _ => ?_) (fun _ => ?_)
  · refine pm_irun 5 (σ' := (44, [some (.ref 49), some (.int a1), some (.int a2), some (.int a3)], [.int (a2 + a3), .ref 61, .long (v2 * v4)], M3)) rfl ?_
    refine pm_igd (σ1 := (45, [some (.ref 49), some (.int a1), some (.int a2), some (.int a3)], [.long (M3.2 61 (a2 + a3).toNatClampNeg), .long (v2 * v4)], M3)) rfl (fun _ => ?_)
    refine pm_irun 1 (σ' := (46, [some (.ref 49), some (.int a1), some (.int a2), some (.int a3)], [.long ((v2 * v4) * (M3.2 61 (a2 + a3).toNatClampNeg))], M3)) rfl ?_
    exact pm_irL rfl rfl
  · refine pm_irun 3 (σ' := (46, [some (.ref 49), some (.int a1), some (.int a2), some (.int a3)], [.long ((v2 * v4) * (1 : Int64))], M3)) rfl ?_
    exact pm_irL rfl rfl
def sR_grows (a1 : Int32) (a2 : Int32) (a3 : Int32) (M : pm_M) : Option (Int64 × pm_M) := pm_loop (fun _ _ _ => none) (fun (g1 : Int64 → Int32 → pm_M → Option (Int64 × pm_M)) x3 x4 M2 => if a2 < x4 then (some (x3, M2)) else (pm_loop (fun _ _ _ => none) (fun (g5 : Int64 → Int32 → pm_M → Option (Int64 × pm_M)) x7 x8 M6 => if a3 < x8 then (pm_lt ((x4 + (1 : Int32))) fun x9 => g1 x7 x9 M6) else (if pm_in ((((7 : Int32) * (a2 - x4)) + a3) - x8) 49 then (pm_lt ((M6.2 62 ((((7 : Int32) * (a2 - x4)) + a3) - x8).toNatClampNeg)) fun x10 => if (lg_cmp x10 (0 : Int64)) = 0 then (pm_lt ((x8 + (1 : Int32))) fun x11 => g5 x7 x11 M6) else (pm_bd (sR_choose a2 x4 M6) fun v13 M12 => pm_bd (sR_choose a3 x8 M12) fun v15 M14 => pm_bd (sR_heap a1 x4 x8 M14) fun v17 M16 => pm_lt ((x7 + (((v13 * v15) * v17) * x10))) fun x18 => pm_lt ((x8 + (1 : Int32))) fun x19 => g5 x18 x19 M16)) else none)) 1000000 x3 (0 : Int32) M2)) 1000000 (0 : Int64) (0 : Int32) M
abbrev I_R_grows (sh : Option (Int64 × pm_M)) (σ : pm_St) : Prop := pm_Im none (pm_Ev 2) pm_T154 (some .long) pm_rL sh σ
set_option maxHeartbeats 4000000 in
set_option maxRecDepth 100000 in
theorem sR_grows_ok (a1 : Int32) (a2 : Int32) (a3 : Int32) (M : pm_M) : ∀ r, sR_grows a1 a2 a3 M = some r → pm_Ev 3 154 [.ref 49, .int a1, .int a2, .int a3] M (pm_rL r).1 (pm_rL r).2 := by
  refine pm_meth (al := [some (.ref 49), some (.int a1), some (.int a2), some (.int a3), none, none, none, none, none, none]) rfl rfl rfl rfl rfl ?_
  unfold sR_grows
  show I_R_grows _ (0, [some (.ref 49), some (.int a1), some (.int a2), some (.int a3), none, none, none, none, none, none], [], M)
  refine pm_irun 2 (σ' := (3, [some (.ref 49), some (.int a1), some (.int a2), some (.int a3), some (.long (0 : Int64)), none, none, none, none, none], [], M)) rfl ?_
  refine pm_irun 2 (σ' := (6, [some (.ref 49), some (.int a1), some (.int a2), some (.int a3), some (.long (0 : Int64)), none, some (.int (0 : Int32)), none, none, none], [], M)) rfl ?_
  refine pm_iloop (fun (g : Int64 → Int32 → pm_M → Option (Int64 × pm_M)) => ∀ (x3 : Int64) (x4 : Int32) (M2 : pm_M), I_R_grows (g x3 x4 M2) (6, [some (.ref 49), some (.int a1), some (.int a2), some (.int a3), some (.long x3), none, some (.int x4), none, none, none], [], M2)) (fun _ _ _ => pm_inone) (fun g1 hg1 x3 x4 M2 => ?_) 1000000 _ _ _
  show I_R_grows _ (6, [some (.ref 49), some (.int a1), some (.int a2), some (.int a3), some (.long x3), none, some (.int x4), none, none, none], [], M2)
  refine pm_irun 2 (σ' := (9, [some (.ref 49), some (.int a1), some (.int a2), some (.int a3), some (.long x3), none, some (.int x4), none, none, none], [.int a2, .int x4], M2)) rfl ?_
  refine pm_iite (σ1 := (92, [some (.ref 49), some (.int a1), some (.int a2), some (.int a3), some (.long x3), none, some (.int x4), none, none, none], [], M2)) (σ2 := (12, [some (.ref 49), some (.int a1), some (.int a2), some (.int a3), some (.long x3), none, some (.int x4), none, none, none], [], M2)) rfl (fun _ => ?_) (fun _ => ?_)
  · refine pm_irun 1 (σ' := (94, [some (.ref 49), some (.int a1), some (.int a2), some (.int a3), some (.long x3), none, some (.int x4), none, none, none], [.long x3], M2)) rfl ?_
    exact pm_irL rfl rfl
  · refine pm_irun 2 (σ' := (15, [some (.ref 49), some (.int a1), some (.int a2), some (.int a3), some (.long x3), none, some (.int x4), some (.int (0 : Int32)), none, none], [], M2)) rfl ?_
    refine pm_iloop (fun (g : Int64 → Int32 → pm_M → Option (Int64 × pm_M)) => ∀ (x7 : Int64) (x8 : Int32) (M6 : pm_M), I_R_grows (g x7 x8 M6) (15, [some (.ref 49), some (.int a1), some (.int a2), some (.int a3), some (.long x7), none, some (.int x4), some (.int x8), none, none], [], M6)) (fun _ _ _ => pm_inone) (fun g5 hg5 x7 x8 M6 => ?_) 1000000 _ _ _
    show I_R_grows _ (15, [some (.ref 49), some (.int a1), some (.int a2), some (.int a3), some (.long x7), none, some (.int x4), some (.int x8), none, none], [], M6)
    refine pm_irun 2 (σ' := (18, [some (.ref 49), some (.int a1), some (.int a2), some (.int a3), some (.long x7), none, some (.int x4), some (.int x8), none, none], [.int a3, .int x8], M6)) rfl ?_
    refine pm_iite (σ1 := (86, [some (.ref 49), some (.int a1), some (.int a2), some (.int a3), some (.long x7), none, some (.int x4), some (.int x8), none, none], [], M6)) (σ2 := (21, [some (.ref 49), some (.int a1), some (.int a2), some (.int a3), some (.long x7), none, some (.int x4), some (.int x8), none, none], [], M6)) rfl (fun _ => ?_) (fun _ => ?_)
    · refine pm_irun 1 (σ' := (89, [some (.ref 49), some (.int a1), some (.int a2), some (.int a3), some (.long x7), none, some (.int (x4 + (1 : Int32))), some (.int x8), none, none], [], M6)) rfl ?_
      refine pm_ilt (fun y => (89, [some (.ref 49), some (.int a1), some (.int a2), some (.int a3), some (.long x7), none, some (.int y), some (.int x8), none, none], [], M6)) (fun x9 => ?_)
      refine pm_irun 1 (σ' := (6, [some (.ref 49), some (.int a1), some (.int a2), some (.int a3), some (.long x7), none, some (.int x9), some (.int x8), none, none], [], M6)) rfl ?_
      refine pm_iwk (al' := [some (.ref 49), some (.int a1), some (.int a2), some (.int a3), some (.long x7), none, some (.int x9), none, none, none]) (pm_wkS (pm_wkS (pm_wkS (pm_wkS (pm_wkS (pm_wkS (pm_wkS (pm_wkN (pm_wkS (pm_wkS pm_wk0)))))))))) ?_
      exact hg1 _ _ _
    · refine pm_irun 8 (σ' := (33, [some (.ref 49), some (.int a1), some (.int a2), some (.int a3), some (.long x7), none, some (.int x4), some (.int x8), none, none], [.int a3, .int ((7 : Int32) * (a2 - x4)), .ref 62], M6)) rfl ?_
      refine pm_irun 3 (σ' := (37, [some (.ref 49), some (.int a1), some (.int a2), some (.int a3), some (.long x7), none, some (.int x4), some (.int x8), none, none], [.int ((((7 : Int32) * (a2 - x4)) + a3) - x8), .ref 62], M6)) rfl ?_
      refine pm_igd (σ1 := (38, [some (.ref 49), some (.int a1), some (.int a2), some (.int a3), some (.long x7), none, some (.int x4), some (.int x8), none, none], [.long (M6.2 62 ((((7 : Int32) * (a2 - x4)) + a3) - x8).toNatClampNeg)], M6)) rfl (fun _ => ?_)
      refine pm_irun 1 (σ' := (40, [some (.ref 49), some (.int a1), some (.int a2), some (.int a3), some (.long x7), none, some (.int x4), some (.int x8), some (.long (M6.2 62 ((((7 : Int32) * (a2 - x4)) + a3) - x8).toNatClampNeg)), none], [], M6)) rfl ?_
      refine pm_ilt (fun y => (40, [some (.ref 49), some (.int a1), some (.int a2), some (.int a3), some (.long x7), none, some (.int x4), some (.int x8), some (.long y), none], [], M6)) (fun x10 => ?_)
      refine pm_irun 3 (σ' := (44, [some (.ref 49), some (.int a1), some (.int a2), some (.int a3), some (.long x7), none, some (.int x4), some (.int x8), some (.long x10), none], [.int (lg_cmp x10 (0 : Int64))], M6)) rfl ?_
      refine pm_iite (σ1 := (80, [some (.ref 49), some (.int a1), some (.int a2), some (.int a3), some (.long x7), none, some (.int x4), some (.int x8), some (.long x10), none], [], M6)) (σ2 := (47, [some (.ref 49), some (.int a1), some (.int a2), some (.int a3), some (.long x7), none, some (.int x4), some (.int x8), some (.long x10), none], [], M6)) rfl (fun _ => ?_) (fun _ => ?_)
      · refine pm_irun 1 (σ' := (83, [some (.ref 49), some (.int a1), some (.int a2), some (.int a3), some (.long x7), none, some (.int x4), some (.int (x8 + (1 : Int32))), some (.long x10), none], [], M6)) rfl ?_
        refine pm_ilt (fun y => (83, [some (.ref 49), some (.int a1), some (.int a2), some (.int a3), some (.long x7), none, some (.int x4), some (.int y), some (.long x10), none], [], M6)) (fun x11 => ?_)
        refine pm_irun 1 (σ' := (15, [some (.ref 49), some (.int a1), some (.int a2), some (.int a3), some (.long x7), none, some (.int x4), some (.int x11), some (.long x10), none], [], M6)) rfl ?_
        refine pm_iwk (al' := [some (.ref 49), some (.int a1), some (.int a2), some (.int a3), some (.long x7), none, some (.int x4), some (.int x11), none, none]) (pm_wkS (pm_wkS (pm_wkS (pm_wkS (pm_wkS (pm_wkS (pm_wkS (pm_wkS (pm_wkN (pm_wkS pm_wk0)))))))))) ?_
        exact hg5 _ _ _
      · refine pm_irun 4 (σ' := (53, [some (.ref 49), some (.int a1), some (.int a2), some (.int a3), some (.long x7), none, some (.int x4), some (.int x8), some (.long x10), none], [.int x4, .int a2, .ref 49, .long x7], M6)) rfl ?_
        refine pm_icL (as := [.ref 49, .int a2, .int x4]) (rest := [.long x7]) rfl rfl rfl rfl (Nat.le_of_ble_eq_true rfl) rfl (fun r h => pm_Ev_mono (Nat.le_of_ble_eq_true rfl) (sR_choose_ok a2 x4 M6 r h)) (fun v13 M12 => ?_)
        show pm_Im _ _ _ _ _ _ (56, [some (.ref 49), some (.int a1), some (.int a2), some (.int a3), some (.long x7), none, some (.int x4), some (.int x8), some (.long x10), none], [.long v13, .long x7], M12)
        refine pm_irun 3 (σ' := (60, [some (.ref 49), some (.int a1), some (.int a2), some (.int a3), some (.long x7), none, some (.int x4), some (.int x8), some (.long x10), none], [.int x8, .int a3, .ref 49, .long v13, .long x7], M12)) rfl ?_
        refine pm_icL (as := [.ref 49, .int a3, .int x8]) (rest := [.long v13, .long x7]) rfl rfl rfl rfl (Nat.le_of_ble_eq_true rfl) rfl (fun r h => pm_Ev_mono (Nat.le_of_ble_eq_true rfl) (sR_choose_ok a3 x8 M12 r h)) (fun v15 M14 => ?_)
        show pm_Im _ _ _ _ _ _ (63, [some (.ref 49), some (.int a1), some (.int a2), some (.int a3), some (.long x7), none, some (.int x4), some (.int x8), some (.long x10), none], [.long v15, .long v13, .long x7], M14)
        refine pm_irun 5 (σ' := (70, [some (.ref 49), some (.int a1), some (.int a2), some (.int a3), some (.long x7), none, some (.int x4), some (.int x8), some (.long x10), none], [.int x8, .int x4, .int a1, .ref 49, .long (v13 * v15), .long x7], M14)) rfl ?_
        refine pm_icL (as := [.ref 49, .int a1, .int x4, .int x8]) (rest := [.long (v13 * v15), .long x7]) rfl rfl rfl rfl (Nat.le_of_ble_eq_true rfl) rfl (fun r h => pm_Ev_mono (Nat.le_of_ble_eq_true rfl) (sR_heap_ok a1 x4 x8 M14 r h)) (fun v17 M16 => ?_)
        show pm_Im _ _ _ _ _ _ (73, [some (.ref 49), some (.int a1), some (.int a2), some (.int a3), some (.long x7), none, some (.int x4), some (.int x8), some (.long x10), none], [.long v17, .long (v13 * v15), .long x7], M16)
        refine pm_irun 5 (σ' := (80, [some (.ref 49), some (.int a1), some (.int a2), some (.int a3), some (.long (x7 + (((v13 * v15) * v17) * x10))), none, some (.int x4), some (.int x8), some (.long x10), none], [], M16)) rfl ?_
        refine pm_ilt (fun y => (80, [some (.ref 49), some (.int a1), some (.int a2), some (.int a3), some (.long y), none, some (.int x4), some (.int x8), some (.long x10), none], [], M16)) (fun x18 => ?_)
        refine pm_irun 1 (σ' := (83, [some (.ref 49), some (.int a1), some (.int a2), some (.int a3), some (.long x18), none, some (.int x4), some (.int (x8 + (1 : Int32))), some (.long x10), none], [], M16)) rfl ?_
        refine pm_ilt (fun y => (83, [some (.ref 49), some (.int a1), some (.int a2), some (.int a3), some (.long x18), none, some (.int x4), some (.int y), some (.long x10), none], [], M16)) (fun x19 => ?_)
        refine pm_irun 1 (σ' := (15, [some (.ref 49), some (.int a1), some (.int a2), some (.int a3), some (.long x18), none, some (.int x4), some (.int x19), some (.long x10), none], [], M16)) rfl ?_
        refine pm_iwk (al' := [some (.ref 49), some (.int a1), some (.int a2), some (.int a3), some (.long x18), none, some (.int x4), some (.int x19), none, none]) (pm_wkS (pm_wkS (pm_wkS (pm_wkS (pm_wkS (pm_wkS (pm_wkS (pm_wkS (pm_wkN (pm_wkS pm_wk0)))))))))) ?_
        exact hg5 _ _ _
def sR_constants (a1 : Int32) (a2 : Int32) (M : pm_M) : Option (pm_M) := pm_loop (fun _ _ => none) (fun (g1 : Int32 → pm_M → Option (pm_M)) x3 M2 => if (49 : Int32) ≤ x3 then (pm_lt (pm_sL M2 62 0 (1 : Int64)) fun M4 => pm_loop (fun _ _ => none) (fun (g5 : Int32 → pm_M → Option (pm_M)) x7 M6 => if a1 ≤ x7 then (some M6) else (if ¬ x7 = a2 then (pm_loop (fun _ _ => none) (fun (g8 : Int32 → pm_M → Option (pm_M)) x10 M9 => if (7 : Int32) ≤ x10 then (pm_loop (fun _ _ => none) (fun (g11 : Int32 → pm_M → Option (pm_M)) x13 M12 => if (49 : Int32) ≤ x13 then (pm_lt ((x7 + (1 : Int32))) fun x14 => g5 x14 M12) else (if pm_in x13 49 then (if pm_in x13 49 then (pm_lt (pm_sL M12 62 x13.toNatClampNeg ((M12.2 63 x13.toNatClampNeg))) fun M15 => pm_lt ((x13 + (1 : Int32))) fun x16 => g11 x16 M15) else none) else none)) 1000000 (0 : Int32) M9) else (pm_loop (fun _ _ => none) (fun (g17 : Int32 → pm_M → Option (pm_M)) x19 M18 => if (7 : Int32) ≤ x19 then (pm_lt ((x10 + (1 : Int32))) fun x20 => g8 x20 M18) else (if (8 : Int32) < (x10 + x19) then (pm_lt ((x10 + (1 : Int32))) fun x21 => g8 x21 M18) else (pm_bd (sR_grows x7 x10 x19 M18) fun v23 M22 => if pm_in (((7 : Int32) * x10) + x19) 49 then (pm_lt (pm_sL M22 63 (((7 : Int32) * x10) + x19).toNatClampNeg v23) fun M24 => pm_lt ((x19 + (1 : Int32))) fun x25 => g17 x25 M24) else none))) 1000000 (0 : Int32) M9)) 1000000 (0 : Int32) M6) else (pm_lt ((x7 + (1 : Int32))) fun x26 => g5 x26 M6))) 1000000 (0 : Int32) M4) else (if pm_in x3 49 then (pm_lt (pm_sL M2 62 x3.toNatClampNeg (0 : Int64)) fun M27 => pm_lt ((x3 + (1 : Int32))) fun x28 => g1 x28 M27) else none)) 1000000 (0 : Int32) M
abbrev I_R_constants (sh : Option (pm_M)) (σ : pm_St) : Prop := pm_Im none (pm_Ev 3) pm_T153 none pm_rV sh σ
set_option maxHeartbeats 4000000 in
set_option maxRecDepth 100000 in
theorem sR_constants_ok (a1 : Int32) (a2 : Int32) (M : pm_M) : ∀ r, sR_constants a1 a2 M = some r → pm_Ev 4 153 [.ref 49, .int a1, .int a2] M (pm_rV r).1 (pm_rV r).2 := by
  refine pm_meth (al := [some (.ref 49), some (.int a1), some (.int a2), none, none, none]) rfl rfl rfl rfl rfl ?_
  unfold sR_constants
  show I_R_constants _ (0, [some (.ref 49), some (.int a1), some (.int a2), none, none, none], [], M)
  refine pm_irun 2 (σ' := (2, [some (.ref 49), some (.int a1), some (.int a2), some (.int (0 : Int32)), none, none], [], M)) rfl ?_
  refine pm_iloop (fun (g : Int32 → pm_M → Option (pm_M)) => ∀ (x3 : Int32) (M2 : pm_M), I_R_constants (g x3 M2) (2, [some (.ref 49), some (.int a1), some (.int a2), some (.int x3), none, none], [], M2)) (fun _ _ => pm_inone) (fun g1 hg1 x3 M2 => ?_) 1000000 _ _
  show I_R_constants _ (2, [some (.ref 49), some (.int a1), some (.int a2), some (.int x3), none, none], [], M2)
  refine pm_irun 2 (σ' := (5, [some (.ref 49), some (.int a1), some (.int a2), some (.int x3), none, none], [.int (49 : Int32), .int x3], M2)) rfl ?_
  refine pm_iite (σ1 := (21, [some (.ref 49), some (.int a1), some (.int a2), some (.int x3), none, none], [], M2)) (σ2 := (8, [some (.ref 49), some (.int a1), some (.int a2), some (.int x3), none, none], [], M2)) rfl (fun _ => ?_) (fun _ => ?_)
  · refine pm_irun 4 (σ' := (27, [some (.ref 49), some (.int a1), some (.int a2), some (.int x3), none, none], [.long (1 : Int64), .int (0 : Int32), .ref 62], M2)) rfl ?_
    refine pm_igt (c := pm_in (0 : Int32) 49) (σ1 := (28, [some (.ref 49), some (.int a1), some (.int a2), some (.int x3), none, none], [], (pm_sL M2 62 0 (1 : Int64)))) (by decide) rfl ?_
    refine pm_ilt (fun y => (28, [some (.ref 49), some (.int a1), some (.int a2), some (.int x3), none, none], [], y)) (fun M4 => ?_)
    refine pm_irun 2 (σ' := (30, [some (.ref 49), some (.int a1), some (.int a2), some (.int (0 : Int32)), none, none], [], M4)) rfl ?_
    refine pm_iloop (fun (g : Int32 → pm_M → Option (pm_M)) => ∀ (x7 : Int32) (M6 : pm_M), I_R_constants (g x7 M6) (30, [some (.ref 49), some (.int a1), some (.int a2), some (.int x7), none, none], [], M6)) (fun _ _ => pm_inone) (fun g5 hg5 x7 M6 => ?_) 1000000 _ _
    show I_R_constants _ (30, [some (.ref 49), some (.int a1), some (.int a2), some (.int x7), none, none], [], M6)
    refine pm_irun 2 (σ' := (32, [some (.ref 49), some (.int a1), some (.int a2), some (.int x7), none, none], [.int a1, .int x7], M6)) rfl ?_
    refine pm_iite (σ1 := (143, [some (.ref 49), some (.int a1), some (.int a2), some (.int x7), none, none], [], M6)) (σ2 := (35, [some (.ref 49), some (.int a1), some (.int a2), some (.int x7), none, none], [], M6)) rfl (fun _ => ?_) (fun _ => ?_)
    · exact pm_irV rfl rfl
    · refine pm_irun 2 (σ' := (37, [some (.ref 49), some (.int a1), some (.int a2), some (.int x7), none, none], [.int a2, .int x7], M6)) rfl ?_
      refine pm_iite (σ1 := (43, [some (.ref 49), some (.int a1), some (.int a2), some (.int x7), none, none], [], M6)) (σ2 := (40, [some (.ref 49), some (.int a1), some (.int a2), some (.int x7), none, none], [], M6)) rfl (fun _ => ?_) (fun _ => ?_)
      · refine pm_irun 2 (σ' := (46, [some (.ref 49), some (.int a1), some (.int a2), some (.int x7), some (.int (0 : Int32)), none], [], M6)) rfl ?_
        refine pm_iloop (fun (g : Int32 → pm_M → Option (pm_M)) => ∀ (x10 : Int32) (M9 : pm_M), I_R_constants (g x10 M9) (46, [some (.ref 49), some (.int a1), some (.int a2), some (.int x7), some (.int x10), none], [], M9)) (fun _ _ => pm_inone) (fun g8 hg8 x10 M9 => ?_) 1000000 _ _
        show I_R_constants _ (46, [some (.ref 49), some (.int a1), some (.int a2), some (.int x7), some (.int x10), none], [], M9)
        refine pm_irun 2 (σ' := (50, [some (.ref 49), some (.int a1), some (.int a2), some (.int x7), some (.int x10), none], [.int (7 : Int32), .int x10], M9)) rfl ?_
        refine pm_iite (σ1 := (107, [some (.ref 49), some (.int a1), some (.int a2), some (.int x7), some (.int x10), none], [], M9)) (σ2 := (53, [some (.ref 49), some (.int a1), some (.int a2), some (.int x7), some (.int x10), none], [], M9)) rfl (fun _ => ?_) (fun _ => ?_)
        · refine pm_irun 2 (σ' := (110, [some (.ref 49), some (.int a1), some (.int a2), some (.int x7), some (.int (0 : Int32)), none], [], M9)) rfl ?_
          refine pm_iloop (fun (g : Int32 → pm_M → Option (pm_M)) => ∀ (x13 : Int32) (M12 : pm_M), I_R_constants (g x13 M12) (110, [some (.ref 49), some (.int a1), some (.int a2), some (.int x7), some (.int x13), none], [], M12)) (fun _ _ => pm_inone) (fun g11 hg11 x13 M12 => ?_) 1000000 _ _
          show I_R_constants _ (110, [some (.ref 49), some (.int a1), some (.int a2), some (.int x7), some (.int x13), none], [], M12)
          refine pm_irun 2 (σ' := (114, [some (.ref 49), some (.int a1), some (.int a2), some (.int x7), some (.int x13), none], [.int (49 : Int32), .int x13], M12)) rfl ?_
          refine pm_iite (σ1 := (137, [some (.ref 49), some (.int a1), some (.int a2), some (.int x7), some (.int x13), none], [], M12)) (σ2 := (117, [some (.ref 49), some (.int a1), some (.int a2), some (.int x7), some (.int x13), none], [], M12)) rfl (fun _ => ?_) (fun _ => ?_)
          · refine pm_irun 1 (σ' := (140, [some (.ref 49), some (.int a1), some (.int a2), some (.int (x7 + (1 : Int32))), some (.int x13), none], [], M12)) rfl ?_
            refine pm_ilt (fun y => (140, [some (.ref 49), some (.int a1), some (.int a2), some (.int y), some (.int x13), none], [], M12)) (fun x14 => ?_)
            refine pm_irun 1 (σ' := (30, [some (.ref 49), some (.int a1), some (.int a2), some (.int x14), some (.int x13), none], [], M12)) rfl ?_
            refine pm_iwk (al' := [some (.ref 49), some (.int a1), some (.int a2), some (.int x14), none, none]) (pm_wkS (pm_wkS (pm_wkS (pm_wkS (pm_wkN (pm_wkS pm_wk0)))))) ?_
            exact hg5 _ _
          · refine pm_irun 6 (σ' := (129, [some (.ref 49), some (.int a1), some (.int a2), some (.int x7), some (.int x13), none], [.int x13, .ref 63, .int x13, .ref 62], M12)) rfl ?_
            refine pm_igd (σ1 := (130, [some (.ref 49), some (.int a1), some (.int a2), some (.int x7), some (.int x13), none], [.long (M12.2 63 x13.toNatClampNeg), .int x13, .ref 62], M12)) rfl (fun _ => ?_)
            refine pm_igd (σ1 := (131, [some (.ref 49), some (.int a1), some (.int a2), some (.int x7), some (.int x13), none], [], (pm_sL M12 62 x13.toNatClampNeg ((M12.2 63 x13.toNatClampNeg))))) rfl (fun _ => ?_)
            refine pm_ilt (fun y => (131, [some (.ref 49), some (.int a1), some (.int a2), some (.int x7), some (.int x13), none], [], y)) (fun M15 => ?_)
            refine pm_irun 1 (σ' := (134, [some (.ref 49), some (.int a1), some (.int a2), some (.int x7), some (.int (x13 + (1 : Int32))), none], [], M15)) rfl ?_
            refine pm_ilt (fun y => (134, [some (.ref 49), some (.int a1), some (.int a2), some (.int x7), some (.int y), none], [], M15)) (fun x16 => ?_)
            refine pm_irun 1 (σ' := (110, [some (.ref 49), some (.int a1), some (.int a2), some (.int x7), some (.int x16), none], [], M15)) rfl ?_
            exact hg11 _ _
        · refine pm_irun 2 (σ' := (56, [some (.ref 49), some (.int a1), some (.int a2), some (.int x7), some (.int x10), some (.int (0 : Int32))], [], M9)) rfl ?_
          refine pm_iloop (fun (g : Int32 → pm_M → Option (pm_M)) => ∀ (x19 : Int32) (M18 : pm_M), I_R_constants (g x19 M18) (56, [some (.ref 49), some (.int a1), some (.int a2), some (.int x7), some (.int x10), some (.int x19)], [], M18)) (fun _ _ => pm_inone) (fun g17 hg17 x19 M18 => ?_) 1000000 _ _
          show I_R_constants _ (56, [some (.ref 49), some (.int a1), some (.int a2), some (.int x7), some (.int x10), some (.int x19)], [], M18)
          refine pm_irun 2 (σ' := (60, [some (.ref 49), some (.int a1), some (.int a2), some (.int x7), some (.int x10), some (.int x19)], [.int (7 : Int32), .int x19], M18)) rfl ?_
          refine pm_iite (σ1 := (101, [some (.ref 49), some (.int a1), some (.int a2), some (.int x7), some (.int x10), some (.int x19)], [], M18)) (σ2 := (63, [some (.ref 49), some (.int a1), some (.int a2), some (.int x7), some (.int x10), some (.int x19)], [], M18)) rfl (fun _ => ?_) (fun _ => ?_)
          · refine pm_irun 1 (σ' := (104, [some (.ref 49), some (.int a1), some (.int a2), some (.int x7), some (.int (x10 + (1 : Int32))), some (.int x19)], [], M18)) rfl ?_
            refine pm_ilt (fun y => (104, [some (.ref 49), some (.int a1), some (.int a2), some (.int x7), some (.int y), some (.int x19)], [], M18)) (fun x20 => ?_)
            refine pm_irun 1 (σ' := (46, [some (.ref 49), some (.int a1), some (.int a2), some (.int x7), some (.int x20), some (.int x19)], [], M18)) rfl ?_
            refine pm_iwk (al' := [some (.ref 49), some (.int a1), some (.int a2), some (.int x7), some (.int x20), none]) (pm_wkS (pm_wkS (pm_wkS (pm_wkS (pm_wkS (pm_wkN pm_wk0)))))) ?_
            exact hg8 _ _
          · refine pm_irun 4 (σ' := (70, [some (.ref 49), some (.int a1), some (.int a2), some (.int x7), some (.int x10), some (.int x19)], [.int (8 : Int32), .int (x10 + x19)], M18)) rfl ?_
            refine pm_iite (σ1 := (101, [some (.ref 49), some (.int a1), some (.int a2), some (.int x7), some (.int x10), some (.int x19)], [], M18)) (σ2 := (73, [some (.ref 49), some (.int a1), some (.int a2), some (.int x7), some (.int x10), some (.int x19)], [], M18)) rfl (fun _ => ?_) (fun _ => ?_)
            · refine pm_irun 1 (σ' := (104, [some (.ref 49), some (.int a1), some (.int a2), some (.int x7), some (.int (x10 + (1 : Int32))), some (.int x19)], [], M18)) rfl ?_
              refine pm_ilt (fun y => (104, [some (.ref 49), some (.int a1), some (.int a2), some (.int x7), some (.int y), some (.int x19)], [], M18)) (fun x21 => ?_)
              refine pm_irun 1 (σ' := (46, [some (.ref 49), some (.int a1), some (.int a2), some (.int x7), some (.int x21), some (.int x19)], [], M18)) rfl ?_
              refine pm_iwk (al' := [some (.ref 49), some (.int a1), some (.int a2), some (.int x7), some (.int x21), none]) (pm_wkS (pm_wkS (pm_wkS (pm_wkS (pm_wkS (pm_wkN pm_wk0)))))) ?_
              exact hg8 _ _
            · refine pm_irun 8 (σ' := (86, [some (.ref 49), some (.int a1), some (.int a2), some (.int x7), some (.int x10), some (.int x19)], [.ref 49, .int (((7 : Int32) * x10) + x19), .ref 63], M18)) rfl ?_
              refine pm_irun 3 (σ' := (91, [some (.ref 49), some (.int a1), some (.int a2), some (.int x7), some (.int x10), some (.int x19)], [.int x19, .int x10, .int x7, .ref 49, .int (((7 : Int32) * x10) + x19), .ref 63], M18)) rfl ?_
              refine pm_icL (as := [.ref 49, .int x7, .int x10, .int x19]) (rest := [.int (((7 : Int32) * x10) + x19), .ref 63]) rfl rfl rfl rfl (Nat.le_of_ble_eq_true rfl) rfl (fun r h => pm_Ev_mono (Nat.le_of_ble_eq_true rfl) (sR_grows_ok x7 x10 x19 M18 r h)) (fun v23 M22 => ?_)
              show pm_Im _ _ _ _ _ _ (94, [some (.ref 49), some (.int a1), some (.int a2), some (.int x7), some (.int x10), some (.int x19)], [.long v23, .int (((7 : Int32) * x10) + x19), .ref 63], M22)
              refine pm_igd (σ1 := (95, [some (.ref 49), some (.int a1), some (.int a2), some (.int x7), some (.int x10), some (.int x19)], [], (pm_sL M22 63 (((7 : Int32) * x10) + x19).toNatClampNeg v23))) rfl (fun _ => ?_)
              refine pm_ilt (fun y => (95, [some (.ref 49), some (.int a1), some (.int a2), some (.int x7), some (.int x10), some (.int x19)], [], y)) (fun M24 => ?_)
              refine pm_irun 1 (σ' := (98, [some (.ref 49), some (.int a1), some (.int a2), some (.int x7), some (.int x10), some (.int (x19 + (1 : Int32)))], [], M24)) rfl ?_
              refine pm_ilt (fun y => (98, [some (.ref 49), some (.int a1), some (.int a2), some (.int x7), some (.int x10), some (.int y)], [], M24)) (fun x25 => ?_)
              refine pm_irun 1 (σ' := (56, [some (.ref 49), some (.int a1), some (.int a2), some (.int x7), some (.int x10), some (.int x25)], [], M24)) rfl ?_
              exact hg17 _ _
      · refine pm_irun 2 (σ' := (140, [some (.ref 49), some (.int a1), some (.int a2), some (.int (x7 + (1 : Int32))), none, none], [], M6)) rfl ?_
        refine pm_ilt (fun y => (140, [some (.ref 49), some (.int a1), some (.int a2), some (.int y), none, none], [], M6)) (fun x26 => ?_)
        refine pm_irun 1 (σ' := (30, [some (.ref 49), some (.int a1), some (.int a2), some (.int x26), none, none], [], M6)) rfl ?_
        exact hg5 _ _
  · refine pm_irun 4 (σ' := (14, [some (.ref 49), some (.int a1), some (.int a2), some (.int x3), none, none], [.long (0 : Int64), .int x3, .ref 62], M2)) rfl ?_
    refine pm_igd (σ1 := (15, [some (.ref 49), some (.int a1), some (.int a2), some (.int x3), none, none], [], (pm_sL M2 62 x3.toNatClampNeg (0 : Int64)))) rfl (fun _ => ?_)
    refine pm_ilt (fun y => (15, [some (.ref 49), some (.int a1), some (.int a2), some (.int x3), none, none], [], y)) (fun M27 => ?_)
    refine pm_irun 1 (σ' := (18, [some (.ref 49), some (.int a1), some (.int a2), some (.int (x3 + (1 : Int32))), none, none], [], M27)) rfl ?_
    refine pm_ilt (fun y => (18, [some (.ref 49), some (.int a1), some (.int a2), some (.int y), none, none], [], M27)) (fun x28 => ?_)
    refine pm_irun 1 (σ' := (2, [some (.ref 49), some (.int a1), some (.int a2), some (.int x28), none, none], [], M27)) rfl ?_
    exact hg1 _ _
def sR_whole (a1 : Int32) (a2 : Int32) (M : pm_M) : Option (Int64 × pm_M) := if a1 < 0 then (some ((0 : Int64), M)) else (if 0 ≤ a2 then (if pm_in (((7 : Int32) * a1) + a2) 49 then (some ((M.2 62 (((7 : Int32) * a1) + a2).toNatClampNeg), M)) else none) else (some ((0 : Int64), M)))
abbrev I_R_whole (sh : Option (Int64 × pm_M)) (σ : pm_St) : Prop := pm_Im none (pm_Ev 0) pm_T155 (some .long) pm_rL sh σ
set_option maxHeartbeats 4000000 in
set_option maxRecDepth 100000 in
theorem sR_whole_ok (a1 : Int32) (a2 : Int32) (M : pm_M) : ∀ r, sR_whole a1 a2 M = some r → pm_Ev 1 155 [.ref 49, .int a1, .int a2] M (pm_rL r).1 (pm_rL r).2 := by
  refine pm_meth (al := [some (.ref 49), some (.int a1), some (.int a2)]) rfl rfl rfl rfl rfl ?_
  unfold sR_whole
  show I_R_whole _ (0, [some (.ref 49), some (.int a1), some (.int a2)], [], M)
  refine pm_irun 1 (σ' := (1, [some (.ref 49), some (.int a1), some (.int a2)], [.int a1], M)) rfl ?_
  refine pm_iite (σ1 := (8, [some (.ref 49), some (.int a1), some (.int a2)], [], M)) (σ2 := (4, [some (.ref 49), some (.int a1), some (.int a2)], [], M)) rfl (fun _ => ?_) (fun _ => ?_)
  · refine pm_irun 2 (σ' := (23, [some (.ref 49), some (.int a1), some (.int a2)], [.long (0 : Int64)], M)) rfl ?_
    exact pm_irL rfl rfl
  · refine pm_irun 1 (σ' := (5, [some (.ref 49), some (.int a1), some (.int a2)], [.int a2], M)) rfl ?_
    refine pm_iite (σ1 := (12, [some (.ref 49), some (.int a1), some (.int a2)], [], M)) (σ2 := (8, [some (.ref 49), some (.int a1), some (.int a2)], [], M)) rfl (fun _ => ?_) (fun _ => ?_)
    · refine pm_irun 7 (σ' := (22, [some (.ref 49), some (.int a1), some (.int a2)], [.int (((7 : Int32) * a1) + a2), .ref 62], M)) rfl ?_
      refine pm_igd (σ1 := (23, [some (.ref 49), some (.int a1), some (.int a2)], [.long (M.2 62 (((7 : Int32) * a1) + a2).toNatClampNeg)], M)) rfl (fun _ => ?_)
      exact pm_irL rfl rfl
    · refine pm_irun 2 (σ' := (23, [some (.ref 49), some (.int a1), some (.int a2)], [.long (0 : Int64)], M)) rfl ?_
      exact pm_irL rfl rfl
def sR_part (a1 : Int64) (a2 : Int64) (a3 : Int32) (M : pm_M) : Option (Int64 × pm_M) := pm_bd (sR_common a1 a2 M) fun v2 M1 => if ¬ a3 = 0 then (if ¬ v2 = 0 then (some ((a2 / v2), M1)) else none) else (if ¬ v2 = 0 then (some ((a1 / v2), M1)) else none)
abbrev I_R_part (sh : Option (Int64 × pm_M)) (σ : pm_St) : Prop := pm_Im none (pm_Ev 1) pm_T156 (some .long) pm_rL sh σ
set_option maxHeartbeats 4000000 in
set_option maxRecDepth 100000 in
theorem sR_part_ok (a1 : Int64) (a2 : Int64) (a3 : Int32) (M : pm_M) : ∀ r, sR_part a1 a2 a3 M = some r → pm_Ev 2 156 [.long a1, .long a2, .int a3] M (pm_rL r).1 (pm_rL r).2 := by
  refine pm_meth (al := [some (.long a1), none, some (.long a2), none, some (.int a3), none, none]) rfl rfl rfl rfl rfl ?_
  unfold sR_part
  show I_R_part _ (0, [some (.long a1), none, some (.long a2), none, some (.int a3), none, none], [], M)
  refine pm_irun 2 (σ' := (2, [some (.long a1), none, some (.long a2), none, some (.int a3), none, none], [.long a2, .long a1], M)) rfl ?_
  refine pm_icL (as := [.long a1, .long a2]) (rest := []) rfl rfl rfl rfl (Nat.le_of_ble_eq_true rfl) rfl (fun r h => pm_Ev_mono (Nat.le_of_ble_eq_true rfl) (sR_common_ok a1 a2 M r h)) (fun v2 M1 => ?_)
  show pm_Im _ _ _ _ _ _ (5, [some (.long a1), none, some (.long a2), none, some (.int a3), none, none], [.long v2], M1)
  refine pm_irun 1 (σ' := (7, [some (.long a1), none, some (.long a2), none, some (.int a3), some (.long v2), none], [], M1)) rfl ?_
  refine pm_irun 1 (σ' := (9, [some (.long a1), none, some (.long a2), none, some (.int a3), some (.long v2), none], [.int a3], M1)) rfl ?_
  refine pm_iite (σ1 := (19, [some (.long a1), none, some (.long a2), none, some (.int a3), some (.long v2), none], [], M1)) (σ2 := (12, [some (.long a1), none, some (.long a2), none, some (.int a3), some (.long v2), none], [], M1)) rfl (fun _ => ?_) (fun _ => ?_)
  · refine pm_irun 2 (σ' := (22, [some (.long a1), none, some (.long a2), none, some (.int a3), some (.long v2), none], [.long v2, .long a2], M1)) rfl ?_
    refine pm_igd (σ1 := (23, [some (.long a1), none, some (.long a2), none, some (.int a3), some (.long v2), none], [.long (a2 / v2)], M1)) rfl (fun _ => ?_)
    exact pm_irL rfl rfl
  · refine pm_irun 2 (σ' := (15, [some (.long a1), none, some (.long a2), none, some (.int a3), some (.long v2), none], [.long v2, .long a1], M1)) rfl ?_
    refine pm_igd (σ1 := (16, [some (.long a1), none, some (.long a2), none, some (.int a3), some (.long v2), none], [.long (a1 / v2)], M1)) rfl (fun _ => ?_)
    refine pm_irun 1 (σ' := (23, [some (.long a1), none, some (.long a2), none, some (.int a3), some (.long v2), none], [.long (a1 / v2)], M1)) rfl ?_
    exact pm_irL rfl rfl
def sR_constant (a1 : Int32) (a2 : Int32) (a3 : Int32) (a4 : Int32) (M : pm_M) : Option (Int64 × pm_M) := pm_bd (sR_in (a1.toInt64) (0 : Int64) (6 : Int64) M) fun v2 M1 => if v2 = 0 then (some ((-4611686018427387904 : Int64), M1)) else (pm_bd (sR_in (a2.toInt64) (0 : Int64) (6 : Int64) M1) fun v4 M3 => if v4 = 0 then (some ((-4611686018427387904 : Int64), M3)) else (if (8 : Int32) < (a1 + a2) then (some ((-4611686018427387904 : Int64), M3)) else (pm_bd (sR_in (a3.toInt64) (0 : Int64) (M3.1 49 1).toInt64 M3) fun v6 M5 => if v6 = 0 then (some ((-4611686018427387904 : Int64), M5)) else (pm_bd (sR_in (a4.toInt64) (0 : Int64) (1 : Int64) M5) fun v8 M7 => if v8 = 0 then (some ((-4611686018427387904 : Int64), M7)) else (pm_bd (sR_isSound M7) fun v10 M9 => if ¬ v10 = 0 then (pm_jn (fun (M12 : pm_M) => pm_jn (fun (M14 : pm_M) => pm_bv (sR_constants a3 (-1 : Int32) M14) fun M15 => pm_bd (sR_whole a1 a2 M15) fun v17 M16 => if pm_in a1 9 then (if pm_in a2 9 then (pm_bd (sR_part v17 ((M16.2 61 a1.toNatClampNeg) * (M16.2 61 a2.toNatClampNeg)) a4 M16) fun v19 M18 => some (v19, M18)) else none) else none) fun (j13 : pm_M → Option (Int64 × pm_M)) => if a2 ≤ 0 then (j13 M12) else (if ¬ (M12.1 53 1) = 0 then (j13 M12) else (some ((-4611686018427387904 : Int64), M12)))) fun (j11 : pm_M → Option (Int64 × pm_M)) => if a1 ≤ 0 then (j11 M9) else (if (M9.1 53 0) = 0 then (some ((-4611686018427387904 : Int64), M9)) else (j11 M9))) else (some ((-4611686018427387904 : Int64), M9)))))))
abbrev I_R_constant (sh : Option (Int64 × pm_M)) (σ : pm_St) : Prop := pm_Im none (pm_Ev 14) pm_T157 (some .long) pm_rL sh σ
set_option maxHeartbeats 4000000 in
set_option maxRecDepth 100000 in
theorem sR_constant_ok (a1 : Int32) (a2 : Int32) (a3 : Int32) (a4 : Int32) (M : pm_M) : ∀ r, sR_constant a1 a2 a3 a4 M = some r → pm_Ev 15 157 [.ref 49, .int a1, .int a2, .int a3, .int a4] M (pm_rL r).1 (pm_rL r).2 := by
  refine pm_meth (al := [some (.ref 49), some (.int a1), some (.int a2), some (.int a3), some (.int a4)]) rfl rfl rfl rfl rfl ?_
  unfold sR_constant
  show I_R_constant _ (0, [some (.ref 49), some (.int a1), some (.int a2), some (.int a3), some (.int a4)], [], M)
  refine pm_irun 4 (σ' := (6, [some (.ref 49), some (.int a1), some (.int a2), some (.int a3), some (.int a4)], [.long (6 : Int64), .long (0 : Int64), .long a1.toInt64], M)) rfl ?_
  refine pm_icI (as := [.long a1.toInt64, .long (0 : Int64), .long (6 : Int64)]) (rest := []) rfl rfl rfl rfl (Nat.le_of_ble_eq_true rfl) rfl (fun r h => pm_Ev_mono (Nat.le_of_ble_eq_true rfl) (sR_in_ok (a1.toInt64) (0 : Int64) (6 : Int64) M r h)) (fun v2 M1 => ?_)
  show pm_Im _ _ _ _ _ _ (9, [some (.ref 49), some (.int a1), some (.int a2), some (.int a3), some (.int a4)], [.int v2], M1)
  refine pm_iite (σ1 := (64, [some (.ref 49), some (.int a1), some (.int a2), some (.int a3), some (.int a4)], [], M1)) (σ2 := (12, [some (.ref 49), some (.int a1), some (.int a2), some (.int a3), some (.int a4)], [], M1)) rfl (fun _ => ?_) (fun _ => ?_)
  · refine pm_irun 1 (σ' := (67, [some (.ref 49), some (.int a1), some (.int a2), some (.int a3), some (.int a4)], [.long (-4611686018427387904 : Int64)], M1)) rfl ?_
    exact pm_irL rfl rfl
  · refine pm_irun 4 (σ' := (18, [some (.ref 49), some (.int a1), some (.int a2), some (.int a3), some (.int a4)], [.long (6 : Int64), .long (0 : Int64), .long a2.toInt64], M1)) rfl ?_
    refine pm_icI (as := [.long a2.toInt64, .long (0 : Int64), .long (6 : Int64)]) (rest := []) rfl rfl rfl rfl (Nat.le_of_ble_eq_true rfl) rfl (fun r h => pm_Ev_mono (Nat.le_of_ble_eq_true rfl) (sR_in_ok (a2.toInt64) (0 : Int64) (6 : Int64) M1 r h)) (fun v4 M3 => ?_)
    show pm_Im _ _ _ _ _ _ (21, [some (.ref 49), some (.int a1), some (.int a2), some (.int a3), some (.int a4)], [.int v4], M3)
    refine pm_iite (σ1 := (64, [some (.ref 49), some (.int a1), some (.int a2), some (.int a3), some (.int a4)], [], M3)) (σ2 := (24, [some (.ref 49), some (.int a1), some (.int a2), some (.int a3), some (.int a4)], [], M3)) rfl (fun _ => ?_) (fun _ => ?_)
    · refine pm_irun 1 (σ' := (67, [some (.ref 49), some (.int a1), some (.int a2), some (.int a3), some (.int a4)], [.long (-4611686018427387904 : Int64)], M3)) rfl ?_
      exact pm_irL rfl rfl
    · refine pm_irun 4 (σ' := (29, [some (.ref 49), some (.int a1), some (.int a2), some (.int a3), some (.int a4)], [.int (8 : Int32), .int (a1 + a2)], M3)) rfl ?_
      refine pm_iite (σ1 := (64, [some (.ref 49), some (.int a1), some (.int a2), some (.int a3), some (.int a4)], [], M3)) (σ2 := (32, [some (.ref 49), some (.int a1), some (.int a2), some (.int a3), some (.int a4)], [], M3)) rfl (fun _ => ?_) (fun _ => ?_)
      · refine pm_irun 1 (σ' := (67, [some (.ref 49), some (.int a1), some (.int a2), some (.int a3), some (.int a4)], [.long (-4611686018427387904 : Int64)], M3)) rfl ?_
        exact pm_irL rfl rfl
      · refine pm_irun 6 (σ' := (40, [some (.ref 49), some (.int a1), some (.int a2), some (.int a3), some (.int a4)], [.long (M3.1 49 1).toInt64, .long (0 : Int64), .long a3.toInt64], M3)) rfl ?_
        refine pm_icI (as := [.long a3.toInt64, .long (0 : Int64), .long (M3.1 49 1).toInt64]) (rest := []) rfl rfl rfl rfl (Nat.le_of_ble_eq_true rfl) rfl (fun r h => pm_Ev_mono (Nat.le_of_ble_eq_true rfl) (sR_in_ok (a3.toInt64) (0 : Int64) (M3.1 49 1).toInt64 M3 r h)) (fun v6 M5 => ?_)
        show pm_Im _ _ _ _ _ _ (43, [some (.ref 49), some (.int a1), some (.int a2), some (.int a3), some (.int a4)], [.int v6], M5)
        refine pm_iite (σ1 := (64, [some (.ref 49), some (.int a1), some (.int a2), some (.int a3), some (.int a4)], [], M5)) (σ2 := (46, [some (.ref 49), some (.int a1), some (.int a2), some (.int a3), some (.int a4)], [], M5)) rfl (fun _ => ?_) (fun _ => ?_)
        · refine pm_irun 1 (σ' := (67, [some (.ref 49), some (.int a1), some (.int a2), some (.int a3), some (.int a4)], [.long (-4611686018427387904 : Int64)], M5)) rfl ?_
          exact pm_irL rfl rfl
        · refine pm_irun 4 (σ' := (51, [some (.ref 49), some (.int a1), some (.int a2), some (.int a3), some (.int a4)], [.long (1 : Int64), .long (0 : Int64), .long a4.toInt64], M5)) rfl ?_
          refine pm_icI (as := [.long a4.toInt64, .long (0 : Int64), .long (1 : Int64)]) (rest := []) rfl rfl rfl rfl (Nat.le_of_ble_eq_true rfl) rfl (fun r h => pm_Ev_mono (Nat.le_of_ble_eq_true rfl) (sR_in_ok (a4.toInt64) (0 : Int64) (1 : Int64) M5 r h)) (fun v8 M7 => ?_)
          show pm_Im _ _ _ _ _ _ (54, [some (.ref 49), some (.int a1), some (.int a2), some (.int a3), some (.int a4)], [.int v8], M7)
          refine pm_iite (σ1 := (64, [some (.ref 49), some (.int a1), some (.int a2), some (.int a3), some (.int a4)], [], M7)) (σ2 := (57, [some (.ref 49), some (.int a1), some (.int a2), some (.int a3), some (.int a4)], [], M7)) rfl (fun _ => ?_) (fun _ => ?_)
          · refine pm_irun 1 (σ' := (67, [some (.ref 49), some (.int a1), some (.int a2), some (.int a3), some (.int a4)], [.long (-4611686018427387904 : Int64)], M7)) rfl ?_
            exact pm_irL rfl rfl
          · refine pm_irun 1 (σ' := (58, [some (.ref 49), some (.int a1), some (.int a2), some (.int a3), some (.int a4)], [.ref 49], M7)) rfl ?_
            refine pm_icI (as := [.ref 49]) (rest := []) rfl rfl rfl rfl (Nat.le_of_ble_eq_true rfl) rfl (fun r h => pm_Ev_mono (Nat.le_of_ble_eq_true rfl) (sR_isSound_ok M7 r h)) (fun v10 M9 => ?_)
            show pm_Im _ _ _ _ _ _ (61, [some (.ref 49), some (.int a1), some (.int a2), some (.int a3), some (.int a4)], [.int v10], M9)
            refine pm_iite (σ1 := (68, [some (.ref 49), some (.int a1), some (.int a2), some (.int a3), some (.int a4)], [], M9)) (σ2 := (64, [some (.ref 49), some (.int a1), some (.int a2), some (.int a3), some (.int a4)], [], M9)) rfl (fun _ => ?_) (fun _ => ?_)
            · refine pm_irun 1 (σ' := (69, [some (.ref 49), some (.int a1), some (.int a2), some (.int a3), some (.int a4)], [.int a1], M9)) rfl ?_
              refine pm_ijn (fun (g : pm_M → Option (Int64 × pm_M)) => ∀ (M12 : pm_M), I_R_constant (g M12) (81, [some (.ref 49), some (.int a1), some (.int a2), some (.int a3), some (.int a4)], [], M12)) (fun (M12 : pm_M) => ?_) (fun j11 hj11 => ?_)
              · show I_R_constant _ (81, [some (.ref 49), some (.int a1), some (.int a2), some (.int a3), some (.int a4)], [], M12)
                refine pm_irun 1 (σ' := (82, [some (.ref 49), some (.int a1), some (.int a2), some (.int a3), some (.int a4)], [.int a2], M12)) rfl ?_
                refine pm_ijn (fun (g : pm_M → Option (Int64 × pm_M)) => ∀ (M14 : pm_M), I_R_constant (g M14) (98, [some (.ref 49), some (.int a1), some (.int a2), some (.int a3), some (.int a4)], [], M14)) (fun (M14 : pm_M) => ?_) (fun j13 hj13 => ?_)
                · show I_R_constant _ (98, [some (.ref 49), some (.int a1), some (.int a2), some (.int a3), some (.int a4)], [], M14)
                  refine pm_irun 3 (σ' := (101, [some (.ref 49), some (.int a1), some (.int a2), some (.int a3), some (.int a4)], [.int (-1 : Int32), .int a3, .ref 49], M14)) rfl ?_
                  refine pm_icV (as := [.ref 49, .int a3, .int (-1 : Int32)]) (rest := []) rfl rfl rfl rfl (Nat.le_of_ble_eq_true rfl) rfl (fun r h => pm_Ev_mono (Nat.le_of_ble_eq_true rfl) (sR_constants_ok a3 (-1 : Int32) M14 r h)) (fun M15 => ?_)
                  show pm_Im _ _ _ _ _ _ (104, [some (.ref 49), some (.int a1), some (.int a2), some (.int a3), some (.int a4)], [], M15)
                  refine pm_irun 3 (σ' := (107, [some (.ref 49), some (.int a1), some (.int a2), some (.int a3), some (.int a4)], [.int a2, .int a1, .ref 49], M15)) rfl ?_
                  refine pm_icL (as := [.ref 49, .int a1, .int a2]) (rest := []) rfl rfl rfl rfl (Nat.le_of_ble_eq_true rfl) rfl (fun r h => pm_Ev_mono (Nat.le_of_ble_eq_true rfl) (sR_whole_ok a1 a2 M15 r h)) (fun v17 M16 => ?_)
                  show pm_Im _ _ _ _ _ _ (110, [some (.ref 49), some (.int a1), some (.int a2), some (.int a3), some (.int a4)], [.long v17], M16)
                  refine pm_irun 3 (σ' := (115, [some (.ref 49), some (.int a1), some (.int a2), some (.int a3), some (.int a4)], [.int a1, .ref 61, .long v17], M16)) rfl ?_
                  refine pm_igd (σ1 := (116, [some (.ref 49), some (.int a1), some (.int a2), some (.int a3), some (.int a4)], [.long (M16.2 61 a1.toNatClampNeg), .long v17], M16)) rfl (fun _ => ?_)
                  refine pm_irun 3 (σ' := (121, [some (.ref 49), some (.int a1), some (.int a2), some (.int a3), some (.int a4)], [.int a2, .ref 61, .long (M16.2 61 a1.toNatClampNeg), .long v17], M16)) rfl ?_
                  refine pm_igd (σ1 := (122, [some (.ref 49), some (.int a1), some (.int a2), some (.int a3), some (.int a4)], [.long (M16.2 61 a2.toNatClampNeg), .long (M16.2 61 a1.toNatClampNeg), .long v17], M16)) rfl (fun _ => ?_)
                  refine pm_irun 2 (σ' := (125, [some (.ref 49), some (.int a1), some (.int a2), some (.int a3), some (.int a4)], [.int a4, .long ((M16.2 61 a1.toNatClampNeg) * (M16.2 61 a2.toNatClampNeg)), .long v17], M16)) rfl ?_
                  refine pm_icL (as := [.long v17, .long ((M16.2 61 a1.toNatClampNeg) * (M16.2 61 a2.toNatClampNeg)), .int a4]) (rest := []) rfl rfl rfl rfl (Nat.le_of_ble_eq_true rfl) rfl (fun r h => pm_Ev_mono (Nat.le_of_ble_eq_true rfl) (sR_part_ok v17 ((M16.2 61 a1.toNatClampNeg) * (M16.2 61 a2.toNatClampNeg)) a4 M16 r h)) (fun v19 M18 => ?_)
                  show pm_Im _ _ _ _ _ _ (128, [some (.ref 49), some (.int a1), some (.int a2), some (.int a3), some (.int a4)], [.long v19], M18)
                  exact pm_irL rfl rfl
                refine pm_iite (σ1 := (98, [some (.ref 49), some (.int a1), some (.int a2), some (.int a3), some (.int a4)], [], M12)) (σ2 := (85, [some (.ref 49), some (.int a1), some (.int a2), some (.int a3), some (.int a4)], [], M12)) rfl (fun _ => ?_) (fun _ => ?_)
                · exact hj13 _
                · refine pm_irun 3 (σ' := (90, [some (.ref 49), some (.int a1), some (.int a2), some (.int a3), some (.int a4)], [.int (1 : Int32), .ref 53], M12)) rfl ?_
                  refine pm_igt (c := pm_in (1 : Int32) 2) (σ1 := (91, [some (.ref 49), some (.int a1), some (.int a2), some (.int a3), some (.int a4)], [.int (M12.1 53 1)], M12)) (by decide) rfl ?_
                  refine pm_iite (σ1 := (98, [some (.ref 49), some (.int a1), some (.int a2), some (.int a3), some (.int a4)], [], M12)) (σ2 := (94, [some (.ref 49), some (.int a1), some (.int a2), some (.int a3), some (.int a4)], [], M12)) rfl (fun _ => ?_) (fun _ => ?_)
                  · exact hj13 _
                  · refine pm_irun 1 (σ' := (97, [some (.ref 49), some (.int a1), some (.int a2), some (.int a3), some (.int a4)], [.long (-4611686018427387904 : Int64)], M12)) rfl ?_
                    exact pm_irL rfl rfl
              refine pm_iite (σ1 := (81, [some (.ref 49), some (.int a1), some (.int a2), some (.int a3), some (.int a4)], [], M9)) (σ2 := (72, [some (.ref 49), some (.int a1), some (.int a2), some (.int a3), some (.int a4)], [], M9)) rfl (fun _ => ?_) (fun _ => ?_)
              · exact hj11 _
              · refine pm_irun 3 (σ' := (77, [some (.ref 49), some (.int a1), some (.int a2), some (.int a3), some (.int a4)], [.int (0 : Int32), .ref 53], M9)) rfl ?_
                refine pm_igt (c := pm_in (0 : Int32) 2) (σ1 := (78, [some (.ref 49), some (.int a1), some (.int a2), some (.int a3), some (.int a4)], [.int (M9.1 53 0)], M9)) (by decide) rfl ?_
                refine pm_iite (σ1 := (94, [some (.ref 49), some (.int a1), some (.int a2), some (.int a3), some (.int a4)], [], M9)) (σ2 := (81, [some (.ref 49), some (.int a1), some (.int a2), some (.int a3), some (.int a4)], [], M9)) rfl (fun _ => ?_) (fun _ => ?_)
                · refine pm_irun 1 (σ' := (97, [some (.ref 49), some (.int a1), some (.int a2), some (.int a3), some (.int a4)], [.long (-4611686018427387904 : Int64)], M9)) rfl ?_
                  exact pm_irL rfl rfl
                · exact hj11 _
            · refine pm_irun 1 (σ' := (67, [some (.ref 49), some (.int a1), some (.int a2), some (.int a3), some (.int a4)], [.long (-4611686018427387904 : Int64)], M9)) rfl ?_
              exact pm_irL rfl rfl
def sC_isSheet (a1 : Int32) (M : pm_M) : Option (Int32 × pm_M) := if a1 < 0 then (some ((0 : Int32), M)) else (if (4 : Int32) ≤ a1 then (some ((0 : Int32), M)) else (some ((1 : Int32), M)))
abbrev I_C_isSheet (sh : Option (Int32 × pm_M)) (σ : pm_St) : Prop := pm_Im none (pm_Ev 0) pm_T100 (some .boolean) pm_rI sh σ
set_option maxHeartbeats 4000000 in
set_option maxRecDepth 100000 in
theorem sC_isSheet_ok (a1 : Int32) (M : pm_M) : ∀ r, sC_isSheet a1 M = some r → pm_Ev 1 100 [.int a1] M (pm_rI r).1 (pm_rI r).2 := by
  refine pm_meth (al := [some (.int a1)]) rfl rfl rfl rfl rfl ?_
  unfold sC_isSheet
  show I_C_isSheet _ (0, [some (.int a1)], [], M)
  refine pm_irun 1 (σ' := (1, [some (.int a1)], [.int a1], M)) rfl ?_
  refine pm_iite (σ1 := (13, [some (.int a1)], [], M)) (σ2 := (4, [some (.int a1)], [], M)) rfl (fun _ => ?_) (fun _ => ?_)
  · refine pm_irun 1 (σ' := (14, [some (.int a1)], [.int (0 : Int32)], M)) rfl ?_
    exact pm_irZ (Or.inl rfl) rfl rfl
  · refine pm_irun 2 (σ' := (6, [some (.int a1)], [.int (4 : Int32), .int a1], M)) rfl ?_
    refine pm_iite (σ1 := (13, [some (.int a1)], [], M)) (σ2 := (9, [some (.int a1)], [], M)) rfl (fun _ => ?_) (fun _ => ?_)
    · refine pm_irun 1 (σ' := (14, [some (.int a1)], [.int (0 : Int32)], M)) rfl ?_
      exact pm_irZ (Or.inl rfl) rfl rfl
    · refine pm_irun 2 (σ' := (14, [some (.int a1)], [.int (1 : Int32)], M)) rfl ?_
      exact pm_irZ (Or.inr rfl) rfl rfl
def sSheet_isMissing_40  (M : pm_M) : Option (Int32 × pm_M) := if ¬ (M.1 40 0) = (-1 : Int32) then (some ((0 : Int32), M)) else (some ((1 : Int32), M))
abbrev I_Sheet_isMissing_40 (sh : Option (Int32 × pm_M)) (σ : pm_St) : Prop := pm_Im none (pm_Ev 0) pm_T9 (some .boolean) pm_rI sh σ
set_option maxHeartbeats 4000000 in
set_option maxRecDepth 100000 in
theorem sSheet_isMissing_40_ok  (M : pm_M) : ∀ r, sSheet_isMissing_40  M = some r → pm_Ev 1 9 [.ref 40] M (pm_rI r).1 (pm_rI r).2 := by
  refine pm_meth (al := [some (.ref 40)]) rfl rfl rfl rfl rfl ?_
  unfold sSheet_isMissing_40
  show I_Sheet_isMissing_40 _ (0, [some (.ref 40)], [], M)
  refine pm_irun 3 (σ' := (5, [some (.ref 40)], [.int (-1 : Int32), .int (M.1 40 0)], M)) rfl ?_
  refine pm_iite (σ1 := (12, [some (.ref 40)], [], M)) (σ2 := (8, [some (.ref 40)], [], M)) rfl (fun _ => ?_) (fun _ => ?_)
  · refine pm_irun 1 (σ' := (13, [some (.ref 40)], [.int (0 : Int32)], M)) rfl ?_
    exact pm_irZ (Or.inl rfl) rfl rfl
  · refine pm_irun 2 (σ' := (13, [some (.ref 40)], [.int (1 : Int32)], M)) rfl ?_
    exact pm_irZ (Or.inr rfl) rfl rfl
def sC_readState_0_40  (M : pm_M) : Option (Int32 × pm_M) := pm_bd (sSheet_isMissing_40 M) fun v2 M1 => if ¬ v2 = 0 then (some ((0 : Int32), M1)) else (if (M1.1 40 1) = ((2 : Int32) * (M1.1 1 0)) then (pm_loop (fun _ _ => none) (fun (g3 : Int32 → pm_M → Option (Int32 × pm_M)) x5 M4 => if (2 : Int32) ≤ x5 then (some ((1 : Int32), M4)) else (if pm_in x5 2 then (pm_lt ((M4.1 5 x5.toNatClampNeg)) fun x6 => pm_loop (fun _ _ _ => none) (fun (g7 : Int32 → Int32 → pm_M → Option (Int32 × pm_M)) x9 x10 M8 => if (M8.1 1 0) ≤ x10 then (if x9 = 0 then (pm_lt ((x5 + (1 : Int32))) fun x11 => g3 x11 M8) else (some ((0 : Int32), M8))) else (if pm_in ((x5 * (M8.1 1 0)) + x10) 40 then (pm_lt ((M8.2 41 ((x5 * (M8.1 1 0)) + x10).toNatClampNeg)) fun x12 => if (lg_cmp x12 (0 : Int64)) < 0 then (some ((0 : Int32), M8)) else (if (lg_cmp x12 x9.toInt64) ≤ 0 then (pm_jn (fun (M14 : pm_M) => if pm_in ((x5 * (5 : Int32)) + x10) 10 then (pm_lt (pm_sI M14 48 ((x5 * (5 : Int32)) + x10).toNatClampNeg (x12.toInt32)) fun M15 => pm_lt ((x9 - x12.toInt32)) fun x16 => pm_lt ((x10 + (1 : Int32))) fun x17 => g7 x16 x17 M15) else none) fun (j13 : pm_M → Option (Int32 × pm_M)) => if (lg_cmp x12 (0 : Int64)) ≤ 0 then (j13 M8) else (pm_bd (sTours_visitsOf x5 x10 M8) fun v19 M18 => if ¬ (lg_cmp v19 (0 : Int64)) = 0 then (j13 M18) else (some ((0 : Int32), M18)))) else (some ((0 : Int32), M8)))) else none)) 1000000 x6 (0 : Int32) M4) else none)) 1000000 (0 : Int32) M1) else (some ((0 : Int32), M1)))
abbrev I_C_readState_0_40 (sh : Option (Int32 × pm_M)) (σ : pm_St) : Prop := pm_Im none (pm_Ev 1) pm_T105 (some .boolean) pm_rI sh σ
set_option maxHeartbeats 4000000 in
set_option maxRecDepth 100000 in
theorem sC_readState_0_40_ok  (M : pm_M) : ∀ r, sC_readState_0_40  M = some r → pm_Ev 2 105 [.ref 0, .ref 40] M (pm_rI r).1 (pm_rI r).2 := by
  refine pm_meth (al := [some (.ref 0), some (.ref 40), none, none, none, none, none]) rfl rfl rfl rfl rfl ?_
  unfold sC_readState_0_40
  show I_C_readState_0_40 _ (0, [some (.ref 0), some (.ref 40), none, none, none, none, none], [], M)
  refine pm_irun 1 (σ' := (1, [some (.ref 0), some (.ref 40), none, none, none, none, none], [.ref 40], M)) rfl ?_
  refine pm_icI (as := [.ref 40]) (rest := []) rfl rfl rfl rfl (Nat.le_of_ble_eq_true rfl) rfl (fun r h => pm_Ev_mono (Nat.le_of_ble_eq_true rfl) (sSheet_isMissing_40_ok M r h)) (fun v2 M1 => ?_)
  show pm_Im _ _ _ _ _ _ (4, [some (.ref 0), some (.ref 40), none, none, none, none, none], [.int v2], M1)
  refine pm_iite (σ1 := (23, [some (.ref 0), some (.ref 40), none, none, none, none, none], [], M1)) (σ2 := (7, [some (.ref 0), some (.ref 40), none, none, none, none, none], [], M1)) rfl (fun _ => ?_) (fun _ => ?_)
  · refine pm_irun 1 (σ' := (24, [some (.ref 0), some (.ref 40), none, none, none, none, none], [.int (0 : Int32)], M1)) rfl ?_
    exact pm_irZ (Or.inl rfl) rfl rfl
  · refine pm_irun 7 (σ' := (20, [some (.ref 0), some (.ref 40), none, none, none, none, none], [.int ((2 : Int32) * (M1.1 1 0)), .int (M1.1 40 1)], M1)) rfl ?_
    refine pm_iite (σ1 := (25, [some (.ref 0), some (.ref 40), none, none, none, none, none], [], M1)) (σ2 := (23, [some (.ref 0), some (.ref 40), none, none, none, none, none], [], M1)) rfl (fun _ => ?_) (fun _ => ?_)
    · refine pm_irun 2 (σ' := (27, [some (.ref 0), some (.ref 40), some (.int (0 : Int32)), none, none, none, none], [], M1)) rfl ?_
      refine pm_iloop (fun (g : Int32 → pm_M → Option (Int32 × pm_M)) => ∀ (x5 : Int32) (M4 : pm_M), I_C_readState_0_40 (g x5 M4) (27, [some (.ref 0), some (.ref 40), some (.int x5), none, none, none, none], [], M4)) (fun _ _ => pm_inone) (fun g3 hg3 x5 M4 => ?_) 1000000 _ _
      show I_C_readState_0_40 _ (27, [some (.ref 0), some (.ref 40), some (.int x5), none, none, none, none], [], M4)
      refine pm_irun 2 (σ' := (29, [some (.ref 0), some (.ref 40), some (.int x5), none, none, none, none], [.int (2 : Int32), .int x5], M4)) rfl ?_
      refine pm_iite (σ1 := (155, [some (.ref 0), some (.ref 40), some (.int x5), none, none, none, none], [], M4)) (σ2 := (32, [some (.ref 0), some (.ref 40), some (.int x5), none, none, none, none], [], M4)) rfl (fun _ => ?_) (fun _ => ?_)
      · refine pm_irun 1 (σ' := (156, [some (.ref 0), some (.ref 40), some (.int x5), none, none, none, none], [.int (1 : Int32)], M4)) rfl ?_
        exact pm_irZ (Or.inr rfl) rfl rfl
      · refine pm_irun 4 (σ' := (40, [some (.ref 0), some (.ref 40), some (.int x5), none, none, none, none], [.int x5, .ref 5], M4)) rfl ?_
        refine pm_igd (σ1 := (41, [some (.ref 0), some (.ref 40), some (.int x5), none, none, none, none], [.int (M4.1 5 x5.toNatClampNeg)], M4)) rfl (fun _ => ?_)
        refine pm_irun 1 (σ' := (42, [some (.ref 0), some (.ref 40), some (.int x5), some (.int (M4.1 5 x5.toNatClampNeg)), none, none, none], [], M4)) rfl ?_
        refine pm_ilt (fun y => (42, [some (.ref 0), some (.ref 40), some (.int x5), some (.int y), none, none, none], [], M4)) (fun x6 => ?_)
        refine pm_irun 2 (σ' := (45, [some (.ref 0), some (.ref 40), some (.int x5), some (.int x6), some (.int (0 : Int32)), none, none], [], M4)) rfl ?_
        refine pm_iloop (fun (g : Int32 → Int32 → pm_M → Option (Int32 × pm_M)) => ∀ (x9 : Int32) (x10 : Int32) (M8 : pm_M), I_C_readState_0_40 (g x9 x10 M8) (45, [some (.ref 0), some (.ref 40), some (.int x5), some (.int x9), some (.int x10), none, none], [], M8)) (fun _ _ _ => pm_inone) (fun g7 hg7 x9 x10 M8 => ?_) 1000000 _ _ _
        show I_C_readState_0_40 _ (45, [some (.ref 0), some (.ref 40), some (.int x5), some (.int x9), some (.int x10), none, none], [], M8)
        refine pm_irun 4 (σ' := (54, [some (.ref 0), some (.ref 40), some (.int x5), some (.int x9), some (.int x10), none, none], [.int (M8.1 1 0), .int x10], M8)) rfl ?_
        refine pm_iite (σ1 := (143, [some (.ref 0), some (.ref 40), some (.int x5), some (.int x9), some (.int x10), none, none], [], M8)) (σ2 := (57, [some (.ref 0), some (.ref 40), some (.int x5), some (.int x9), some (.int x10), none, none], [], M8)) rfl (fun _ => ?_) (fun _ => ?_)
        · refine pm_irun 1 (σ' := (144, [some (.ref 0), some (.ref 40), some (.int x5), some (.int x9), some (.int x10), none, none], [.int x9], M8)) rfl ?_
          refine pm_iite (σ1 := (149, [some (.ref 0), some (.ref 40), some (.int x5), some (.int x9), some (.int x10), none, none], [], M8)) (σ2 := (147, [some (.ref 0), some (.ref 40), some (.int x5), some (.int x9), some (.int x10), none, none], [], M8)) rfl (fun _ => ?_) (fun _ => ?_)
          · refine pm_irun 1 (σ' := (152, [some (.ref 0), some (.ref 40), some (.int (x5 + (1 : Int32))), some (.int x9), some (.int x10), none, none], [], M8)) rfl ?_
            refine pm_ilt (fun y => (152, [some (.ref 0), some (.ref 40), some (.int y), some (.int x9), some (.int x10), none, none], [], M8)) (fun x11 => ?_)
            refine pm_irun 1 (σ' := (27, [some (.ref 0), some (.ref 40), some (.int x11), some (.int x9), some (.int x10), none, none], [], M8)) rfl ?_
            refine pm_iwk (al' := [some (.ref 0), some (.ref 40), some (.int x11), none, none, none, none]) (pm_wkS (pm_wkS (pm_wkS (pm_wkN (pm_wkN (pm_wkS (pm_wkS pm_wk0))))))) ?_
            exact hg3 _ _
          · refine pm_irun 1 (σ' := (148, [some (.ref 0), some (.ref 40), some (.int x5), some (.int x9), some (.int x10), none, none], [.int (0 : Int32)], M8)) rfl ?_
            exact pm_irZ (Or.inl rfl) rfl rfl
        · refine pm_irun 8 (σ' := (72, [some (.ref 0), some (.ref 40), some (.int x5), some (.int x9), some (.int x10), none, none], [.int x10, .int (x5 * (M8.1 1 0)), .ref 41], M8)) rfl ?_
          refine pm_irun 1 (σ' := (73, [some (.ref 0), some (.ref 40), some (.int x5), some (.int x9), some (.int x10), none, none], [.int ((x5 * (M8.1 1 0)) + x10), .ref 41], M8)) rfl ?_
          refine pm_igd (σ1 := (74, [some (.ref 0), some (.ref 40), some (.int x5), some (.int x9), some (.int x10), none, none], [.long (M8.2 41 ((x5 * (M8.1 1 0)) + x10).toNatClampNeg)], M8)) rfl (fun _ => ?_)
          refine pm_irun 1 (σ' := (76, [some (.ref 0), some (.ref 40), some (.int x5), some (.int x9), some (.int x10), some (.long (M8.2 41 ((x5 * (M8.1 1 0)) + x10).toNatClampNeg)), none], [], M8)) rfl ?_
          refine pm_ilt (fun y => (76, [some (.ref 0), some (.ref 40), some (.int x5), some (.int x9), some (.int x10), some (.long y), none], [], M8)) (fun x12 => ?_)
          refine pm_irun 3 (σ' := (80, [some (.ref 0), some (.ref 40), some (.int x5), some (.int x9), some (.int x10), some (.long x12), none], [.int (lg_cmp x12 (0 : Int64))], M8)) rfl ?_
          refine pm_iite (σ1 := (91, [some (.ref 0), some (.ref 40), some (.int x5), some (.int x9), some (.int x10), some (.long x12), none], [], M8)) (σ2 := (83, [some (.ref 0), some (.ref 40), some (.int x5), some (.int x9), some (.int x10), some (.long x12), none], [], M8)) rfl (fun _ => ?_) (fun _ => ?_)
          · refine pm_irun 1 (σ' := (92, [some (.ref 0), some (.ref 40), some (.int x5), some (.int x9), some (.int x10), some (.long x12), none], [.int (0 : Int32)], M8)) rfl ?_
            exact pm_irZ (Or.inl rfl) rfl rfl
          · refine pm_irun 4 (σ' := (88, [some (.ref 0), some (.ref 40), some (.int x5), some (.int x9), some (.int x10), some (.long x12), none], [.int (lg_cmp x12 x9.toInt64)], M8)) rfl ?_
            refine pm_iite (σ1 := (93, [some (.ref 0), some (.ref 40), some (.int x5), some (.int x9), some (.int x10), some (.long x12), none], [], M8)) (σ2 := (91, [some (.ref 0), some (.ref 40), some (.int x5), some (.int x9), some (.int x10), some (.long x12), none], [], M8)) rfl (fun _ => ?_) (fun _ => ?_)
            · refine pm_irun 3 (σ' := (97, [some (.ref 0), some (.ref 40), some (.int x5), some (.int x9), some (.int x10), some (.long x12), none], [.int (lg_cmp x12 (0 : Int64))], M8)) rfl ?_
              refine pm_ijn (fun (g : pm_M → Option (Int32 × pm_M)) => ∀ (M14 : pm_M), I_C_readState_0_40 (g M14) (117, [some (.ref 0), some (.ref 40), some (.int x5), some (.int x9), some (.int x10), some (.long x12), none], [], M14)) (fun (M14 : pm_M) => ?_) (fun j13 hj13 => ?_)
              · show I_C_readState_0_40 _ (117, [some (.ref 0), some (.ref 40), some (.int x5), some (.int x9), some (.int x10), some (.long x12), none], [], M14)
                refine pm_irun 8 (σ' := (129, [some (.ref 0), some (.ref 40), some (.int x5), some (.int x9), some (.int x10), some (.long x12), none], [.long x12, .int ((x5 * (5 : Int32)) + x10), .ref 48], M14)) rfl ?_
                refine pm_irun 1 (σ' := (130, [some (.ref 0), some (.ref 40), some (.int x5), some (.int x9), some (.int x10), some (.long x12), none], [.int x12.toInt32, .int ((x5 * (5 : Int32)) + x10), .ref 48], M14)) rfl ?_
                refine pm_igd (σ1 := (131, [some (.ref 0), some (.ref 40), some (.int x5), some (.int x9), some (.int x10), some (.long x12), none], [], (pm_sI M14 48 ((x5 * (5 : Int32)) + x10).toNatClampNeg (x12.toInt32)))) rfl (fun _ => ?_)
                refine pm_ilt (fun y => (131, [some (.ref 0), some (.ref 40), some (.int x5), some (.int x9), some (.int x10), some (.long x12), none], [], y)) (fun M15 => ?_)
                refine pm_irun 5 (σ' := (137, [some (.ref 0), some (.ref 40), some (.int x5), some (.int (x9 - x12.toInt32)), some (.int x10), some (.long x12), none], [], M15)) rfl ?_
                refine pm_ilt (fun y => (137, [some (.ref 0), some (.ref 40), some (.int x5), some (.int y), some (.int x10), some (.long x12), none], [], M15)) (fun x16 => ?_)
                refine pm_irun 1 (σ' := (140, [some (.ref 0), some (.ref 40), some (.int x5), some (.int x16), some (.int (x10 + (1 : Int32))), some (.long x12), none], [], M15)) rfl ?_
                refine pm_ilt (fun y => (140, [some (.ref 0), some (.ref 40), some (.int x5), some (.int x16), some (.int y), some (.long x12), none], [], M15)) (fun x17 => ?_)
                refine pm_irun 1 (σ' := (45, [some (.ref 0), some (.ref 40), some (.int x5), some (.int x16), some (.int x17), some (.long x12), none], [], M15)) rfl ?_
                refine pm_iwk (al' := [some (.ref 0), some (.ref 40), some (.int x5), some (.int x16), some (.int x17), none, none]) (pm_wkS (pm_wkS (pm_wkS (pm_wkS (pm_wkS (pm_wkN (pm_wkS pm_wk0))))))) ?_
                exact hg7 _ _ _
              refine pm_iite (σ1 := (117, [some (.ref 0), some (.ref 40), some (.int x5), some (.int x9), some (.int x10), some (.long x12), none], [], M8)) (σ2 := (100, [some (.ref 0), some (.ref 40), some (.int x5), some (.int x9), some (.int x10), some (.long x12), none], [], M8)) rfl (fun _ => ?_) (fun _ => ?_)
              · exact hj13 _
              · refine pm_irun 4 (σ' := (107, [some (.ref 0), some (.ref 40), some (.int x5), some (.int x9), some (.int x10), some (.long x12), none], [.int x10, .int x5, .ref 15], M8)) rfl ?_
                refine pm_icL (as := [.ref 15, .int x5, .int x10]) (rest := []) rfl rfl rfl rfl (Nat.le_of_ble_eq_true rfl) rfl (fun r h => pm_Ev_mono (Nat.le_of_ble_eq_true rfl) (sTours_visitsOf_ok x5 x10 M8 r h)) (fun v19 M18 => ?_)
                show pm_Im _ _ _ _ _ _ (110, [some (.ref 0), some (.ref 40), some (.int x5), some (.int x9), some (.int x10), some (.long x12), none], [.long v19], M18)
                refine pm_irun 2 (σ' := (112, [some (.ref 0), some (.ref 40), some (.int x5), some (.int x9), some (.int x10), some (.long x12), none], [.int (lg_cmp v19 (0 : Int64))], M18)) rfl ?_
                refine pm_iite (σ1 := (117, [some (.ref 0), some (.ref 40), some (.int x5), some (.int x9), some (.int x10), some (.long x12), none], [], M18)) (σ2 := (115, [some (.ref 0), some (.ref 40), some (.int x5), some (.int x9), some (.int x10), some (.long x12), none], [], M18)) rfl (fun _ => ?_) (fun _ => ?_)
                · exact hj13 _
                · refine pm_irun 1 (σ' := (116, [some (.ref 0), some (.ref 40), some (.int x5), some (.int x9), some (.int x10), some (.long x12), none], [.int (0 : Int32)], M18)) rfl ?_
                  exact pm_irZ (Or.inl rfl) rfl rfl
            · refine pm_irun 1 (σ' := (92, [some (.ref 0), some (.ref 40), some (.int x5), some (.int x9), some (.int x10), some (.long x12), none], [.int (0 : Int32)], M8)) rfl ?_
              exact pm_irZ (Or.inl rfl) rfl rfl
    · refine pm_irun 1 (σ' := (24, [some (.ref 0), some (.ref 40), none, none, none, none, none], [.int (0 : Int32)], M1)) rfl ?_
      exact pm_irZ (Or.inl rfl) rfl rfl
def sStates_weightOf_23_48  (M : pm_M) : Option (Int64 × pm_M) := pm_lt ((M.1 23 1)) fun x1 => pm_lt ((M.1 23 2)) fun x2 => pm_loop (fun _ _ _ _ _ => none) (fun (g3 : Int32 → Int32 → Int64 → Int32 → pm_M → Option (Int64 × pm_M)) x5 x6 x7 x8 M4 => if (M4.1 23 0) ≤ x8 then (some (x7, M4)) else (if pm_in x8 10 then (pm_lt ((M4.1 48 x8.toNatClampNeg)) fun x9 => if pm_in ((5 : Int32) + x8) 10 then (pm_lt ((M4.1 48 ((5 : Int32) + x8).toNatClampNeg)) fun x10 => pm_bd (sC_choose x5 x9 M4) fun v12 M11 => pm_bd (sC_choose x6 x10 M11) fun v14 M13 => pm_bd (sStates_factorOf x8 x9 x10 M13) fun v16 M15 => pm_lt ((x7 * ((v12 * v14) * v16))) fun x17 => pm_lt ((x5 - x9)) fun x18 => pm_lt ((x6 - x10)) fun x19 => pm_lt ((x8 + (1 : Int32))) fun x20 => g3 x18 x19 x17 x20 M15) else none) else none)) 1000000 x1 x2 (1 : Int64) (0 : Int32) M
abbrev I_States_weightOf_23_48 (sh : Option (Int64 × pm_M)) (σ : pm_St) : Prop := pm_Im none (pm_Ev 2) pm_T21 (some .long) pm_rL sh σ
set_option maxHeartbeats 4000000 in
set_option maxRecDepth 100000 in
theorem sStates_weightOf_23_48_ok  (M : pm_M) : ∀ r, sStates_weightOf_23_48  M = some r → pm_Ev 3 21 [.ref 23, .ref 48] M (pm_rL r).1 (pm_rL r).2 := by
  refine pm_meth (al := [some (.ref 23), some (.ref 48), none, none, none, none, none, none, none]) rfl rfl rfl rfl rfl ?_
  unfold sStates_weightOf_23_48
  show I_States_weightOf_23_48 _ (0, [some (.ref 23), some (.ref 48), none, none, none, none, none, none, none], [], M)
  refine pm_irun 3 (σ' := (5, [some (.ref 23), some (.ref 48), some (.int (M.1 23 1)), none, none, none, none, none, none], [], M)) rfl ?_
  refine pm_ilt (fun y => (5, [some (.ref 23), some (.ref 48), some (.int y), none, none, none, none, none, none], [], M)) (fun x1 => ?_)
  refine pm_irun 3 (σ' := (10, [some (.ref 23), some (.ref 48), some (.int x1), some (.int (M.1 23 2)), none, none, none, none, none], [], M)) rfl ?_
  refine pm_ilt (fun y => (10, [some (.ref 23), some (.ref 48), some (.int x1), some (.int y), none, none, none, none, none], [], M)) (fun x2 => ?_)
  refine pm_irun 2 (σ' := (13, [some (.ref 23), some (.ref 48), some (.int x1), some (.int x2), some (.long (1 : Int64)), none, none, none, none], [], M)) rfl ?_
  refine pm_irun 2 (σ' := (16, [some (.ref 23), some (.ref 48), some (.int x1), some (.int x2), some (.long (1 : Int64)), none, some (.int (0 : Int32)), none, none], [], M)) rfl ?_
  refine pm_iloop (fun (g : Int32 → Int32 → Int64 → Int32 → pm_M → Option (Int64 × pm_M)) => ∀ (x5 : Int32) (x6 : Int32) (x7 : Int64) (x8 : Int32) (M4 : pm_M), I_States_weightOf_23_48 (g x5 x6 x7 x8 M4) (16, [some (.ref 23), some (.ref 48), some (.int x5), some (.int x6), some (.long x7), none, some (.int x8), none, none], [], M4)) (fun _ _ _ _ _ => pm_inone) (fun g3 hg3 x5 x6 x7 x8 M4 => ?_) 1000000 _ _ _ _ _
  show I_States_weightOf_23_48 _ (16, [some (.ref 23), some (.ref 48), some (.int x5), some (.int x6), some (.long x7), none, some (.int x8), none, none], [], M4)
  refine pm_irun 3 (σ' := (22, [some (.ref 23), some (.ref 48), some (.int x5), some (.int x6), some (.long x7), none, some (.int x8), none, none], [.int (M4.1 23 0), .int x8], M4)) rfl ?_
  refine pm_iite (σ1 := (84, [some (.ref 23), some (.ref 48), some (.int x5), some (.int x6), some (.long x7), none, some (.int x8), none, none], [], M4)) (σ2 := (25, [some (.ref 23), some (.ref 48), some (.int x5), some (.int x6), some (.long x7), none, some (.int x8), none, none], [], M4)) rfl (fun _ => ?_) (fun _ => ?_)
  · refine pm_irun 1 (σ' := (86, [some (.ref 23), some (.ref 48), some (.int x5), some (.int x6), some (.long x7), none, some (.int x8), none, none], [.long x7], M4)) rfl ?_
    exact pm_irL rfl rfl
  · refine pm_irun 2 (σ' := (28, [some (.ref 23), some (.ref 48), some (.int x5), some (.int x6), some (.long x7), none, some (.int x8), none, none], [.int x8, .ref 48], M4)) rfl ?_
    refine pm_igd (σ1 := (29, [some (.ref 23), some (.ref 48), some (.int x5), some (.int x6), some (.long x7), none, some (.int x8), none, none], [.int (M4.1 48 x8.toNatClampNeg)], M4)) rfl (fun _ => ?_)
    refine pm_irun 1 (σ' := (31, [some (.ref 23), some (.ref 48), some (.int x5), some (.int x6), some (.long x7), none, some (.int x8), some (.int (M4.1 48 x8.toNatClampNeg)), none], [], M4)) rfl ?_
    refine pm_ilt (fun y => (31, [some (.ref 23), some (.ref 48), some (.int x5), some (.int x6), some (.long x7), none, some (.int x8), some (.int y), none], [], M4)) (fun x9 => ?_)
    refine pm_irun 4 (σ' := (36, [some (.ref 23), some (.ref 48), some (.int x5), some (.int x6), some (.long x7), none, some (.int x8), some (.int x9), none], [.int ((5 : Int32) + x8), .ref 48], M4)) rfl ?_
    refine pm_igd (σ1 := (37, [some (.ref 23), some (.ref 48), some (.int x5), some (.int x6), some (.long x7), none, some (.int x8), some (.int x9), none], [.int (M4.1 48 ((5 : Int32) + x8).toNatClampNeg)], M4)) rfl (fun _ => ?_)
    refine pm_irun 1 (σ' := (39, [some (.ref 23), some (.ref 48), some (.int x5), some (.int x6), some (.long x7), none, some (.int x8), some (.int x9), some (.int (M4.1 48 ((5 : Int32) + x8).toNatClampNeg))], [], M4)) rfl ?_
    refine pm_ilt (fun y => (39, [some (.ref 23), some (.ref 48), some (.int x5), some (.int x6), some (.long x7), none, some (.int x8), some (.int x9), some (.int y)], [], M4)) (fun x10 => ?_)
    refine pm_irun 3 (σ' := (44, [some (.ref 23), some (.ref 48), some (.int x5), some (.int x6), some (.long x7), none, some (.int x8), some (.int x9), some (.int x10)], [.int x9, .int x5, .long x7], M4)) rfl ?_
    refine pm_icL (as := [.int x5, .int x9]) (rest := [.long x7]) rfl rfl rfl rfl (Nat.le_of_ble_eq_true rfl) rfl (fun r h => pm_Ev_mono (Nat.le_of_ble_eq_true rfl) (sC_choose_ok x5 x9 M4 r h)) (fun v12 M11 => ?_)
    show pm_Im _ _ _ _ _ _ (47, [some (.ref 23), some (.ref 48), some (.int x5), some (.int x6), some (.long x7), none, some (.int x8), some (.int x9), some (.int x10)], [.long v12, .long x7], M11)
    refine pm_irun 2 (σ' := (50, [some (.ref 23), some (.ref 48), some (.int x5), some (.int x6), some (.long x7), none, some (.int x8), some (.int x9), some (.int x10)], [.int x10, .int x6, .long v12, .long x7], M11)) rfl ?_
    refine pm_icL (as := [.int x6, .int x10]) (rest := [.long v12, .long x7]) rfl rfl rfl rfl (Nat.le_of_ble_eq_true rfl) rfl (fun r h => pm_Ev_mono (Nat.le_of_ble_eq_true rfl) (sC_choose_ok x6 x10 M11 r h)) (fun v14 M13 => ?_)
    show pm_Im _ _ _ _ _ _ (53, [some (.ref 23), some (.ref 48), some (.int x5), some (.int x6), some (.long x7), none, some (.int x8), some (.int x9), some (.int x10)], [.long v14, .long v12, .long x7], M13)
    refine pm_irun 5 (σ' := (61, [some (.ref 23), some (.ref 48), some (.int x5), some (.int x6), some (.long x7), none, some (.int x8), some (.int x9), some (.int x10)], [.int x10, .int x9, .int x8, .ref 23, .long (v12 * v14), .long x7], M13)) rfl ?_
    refine pm_icL (as := [.ref 23, .int x8, .int x9, .int x10]) (rest := [.long (v12 * v14), .long x7]) rfl rfl rfl rfl (Nat.le_of_ble_eq_true rfl) rfl (fun r h => pm_Ev_mono (Nat.le_of_ble_eq_true rfl) (sStates_factorOf_ok x8 x9 x10 M13 r h)) (fun v16 M15 => ?_)
    show pm_Im _ _ _ _ _ _ (64, [some (.ref 23), some (.ref 48), some (.int x5), some (.int x6), some (.long x7), none, some (.int x8), some (.int x9), some (.int x10)], [.long v16, .long (v12 * v14), .long x7], M15)
    refine pm_irun 3 (σ' := (68, [some (.ref 23), some (.ref 48), some (.int x5), some (.int x6), some (.long (x7 * ((v12 * v14) * v16))), none, some (.int x8), some (.int x9), some (.int x10)], [], M15)) rfl ?_
    refine pm_ilt (fun y => (68, [some (.ref 23), some (.ref 48), some (.int x5), some (.int x6), some (.long y), none, some (.int x8), some (.int x9), some (.int x10)], [], M15)) (fun x17 => ?_)
    refine pm_irun 4 (σ' := (73, [some (.ref 23), some (.ref 48), some (.int (x5 - x9)), some (.int x6), some (.long x17), none, some (.int x8), some (.int x9), some (.int x10)], [], M15)) rfl ?_
    refine pm_ilt (fun y => (73, [some (.ref 23), some (.ref 48), some (.int y), some (.int x6), some (.long x17), none, some (.int x8), some (.int x9), some (.int x10)], [], M15)) (fun x18 => ?_)
    refine pm_irun 4 (σ' := (78, [some (.ref 23), some (.ref 48), some (.int x18), some (.int (x6 - x10)), some (.long x17), none, some (.int x8), some (.int x9), some (.int x10)], [], M15)) rfl ?_
    refine pm_ilt (fun y => (78, [some (.ref 23), some (.ref 48), some (.int x18), some (.int y), some (.long x17), none, some (.int x8), some (.int x9), some (.int x10)], [], M15)) (fun x19 => ?_)
    refine pm_irun 1 (σ' := (81, [some (.ref 23), some (.ref 48), some (.int x18), some (.int x19), some (.long x17), none, some (.int (x8 + (1 : Int32))), some (.int x9), some (.int x10)], [], M15)) rfl ?_
    refine pm_ilt (fun y => (81, [some (.ref 23), some (.ref 48), some (.int x18), some (.int x19), some (.long x17), none, some (.int y), some (.int x9), some (.int x10)], [], M15)) (fun x20 => ?_)
    refine pm_irun 1 (σ' := (16, [some (.ref 23), some (.ref 48), some (.int x18), some (.int x19), some (.long x17), none, some (.int x20), some (.int x9), some (.int x10)], [], M15)) rfl ?_
    refine pm_iwk (al' := [some (.ref 23), some (.ref 48), some (.int x18), some (.int x19), some (.long x17), none, some (.int x20), none, none]) (pm_wkS (pm_wkS (pm_wkS (pm_wkS (pm_wkS (pm_wkS (pm_wkS (pm_wkN (pm_wkN pm_wk0))))))))) ?_
    exact hg3 _ _ _ _ _
def sSheet_isMissing_42  (M : pm_M) : Option (Int32 × pm_M) := if ¬ (M.1 42 0) = (-1 : Int32) then (some ((0 : Int32), M)) else (some ((1 : Int32), M))
abbrev I_Sheet_isMissing_42 (sh : Option (Int32 × pm_M)) (σ : pm_St) : Prop := pm_Im none (pm_Ev 0) pm_T9 (some .boolean) pm_rI sh σ
set_option maxHeartbeats 4000000 in
set_option maxRecDepth 100000 in
theorem sSheet_isMissing_42_ok  (M : pm_M) : ∀ r, sSheet_isMissing_42  M = some r → pm_Ev 1 9 [.ref 42] M (pm_rI r).1 (pm_rI r).2 := by
  refine pm_meth (al := [some (.ref 42)]) rfl rfl rfl rfl rfl ?_
  unfold sSheet_isMissing_42
  show I_Sheet_isMissing_42 _ (0, [some (.ref 42)], [], M)
  refine pm_irun 3 (σ' := (5, [some (.ref 42)], [.int (-1 : Int32), .int (M.1 42 0)], M)) rfl ?_
  refine pm_iite (σ1 := (12, [some (.ref 42)], [], M)) (σ2 := (8, [some (.ref 42)], [], M)) rfl (fun _ => ?_) (fun _ => ?_)
  · refine pm_irun 1 (σ' := (13, [some (.ref 42)], [.int (0 : Int32)], M)) rfl ?_
    exact pm_irZ (Or.inl rfl) rfl rfl
  · refine pm_irun 2 (σ' := (13, [some (.ref 42)], [.int (1 : Int32)], M)) rfl ?_
    exact pm_irZ (Or.inr rfl) rfl rfl
def sC_readState_0_42  (M : pm_M) : Option (Int32 × pm_M) := pm_bd (sSheet_isMissing_42 M) fun v2 M1 => if ¬ v2 = 0 then (some ((0 : Int32), M1)) else (if (M1.1 42 1) = ((2 : Int32) * (M1.1 1 0)) then (pm_loop (fun _ _ => none) (fun (g3 : Int32 → pm_M → Option (Int32 × pm_M)) x5 M4 => if (2 : Int32) ≤ x5 then (some ((1 : Int32), M4)) else (if pm_in x5 2 then (pm_lt ((M4.1 5 x5.toNatClampNeg)) fun x6 => pm_loop (fun _ _ _ => none) (fun (g7 : Int32 → Int32 → pm_M → Option (Int32 × pm_M)) x9 x10 M8 => if (M8.1 1 0) ≤ x10 then (if x9 = 0 then (pm_lt ((x5 + (1 : Int32))) fun x11 => g3 x11 M8) else (some ((0 : Int32), M8))) else (if pm_in ((x5 * (M8.1 1 0)) + x10) 40 then (pm_lt ((M8.2 43 ((x5 * (M8.1 1 0)) + x10).toNatClampNeg)) fun x12 => if (lg_cmp x12 (0 : Int64)) < 0 then (some ((0 : Int32), M8)) else (if (lg_cmp x12 x9.toInt64) ≤ 0 then (pm_jn (fun (M14 : pm_M) => if pm_in ((x5 * (5 : Int32)) + x10) 10 then (pm_lt (pm_sI M14 48 ((x5 * (5 : Int32)) + x10).toNatClampNeg (x12.toInt32)) fun M15 => pm_lt ((x9 - x12.toInt32)) fun x16 => pm_lt ((x10 + (1 : Int32))) fun x17 => g7 x16 x17 M15) else none) fun (j13 : pm_M → Option (Int32 × pm_M)) => if (lg_cmp x12 (0 : Int64)) ≤ 0 then (j13 M8) else (pm_bd (sTours_visitsOf x5 x10 M8) fun v19 M18 => if ¬ (lg_cmp v19 (0 : Int64)) = 0 then (j13 M18) else (some ((0 : Int32), M18)))) else (some ((0 : Int32), M8)))) else none)) 1000000 x6 (0 : Int32) M4) else none)) 1000000 (0 : Int32) M1) else (some ((0 : Int32), M1)))
abbrev I_C_readState_0_42 (sh : Option (Int32 × pm_M)) (σ : pm_St) : Prop := pm_Im none (pm_Ev 1) pm_T105 (some .boolean) pm_rI sh σ
set_option maxHeartbeats 4000000 in
set_option maxRecDepth 100000 in
theorem sC_readState_0_42_ok  (M : pm_M) : ∀ r, sC_readState_0_42  M = some r → pm_Ev 2 105 [.ref 0, .ref 42] M (pm_rI r).1 (pm_rI r).2 := by
  refine pm_meth (al := [some (.ref 0), some (.ref 42), none, none, none, none, none]) rfl rfl rfl rfl rfl ?_
  unfold sC_readState_0_42
  show I_C_readState_0_42 _ (0, [some (.ref 0), some (.ref 42), none, none, none, none, none], [], M)
  refine pm_irun 1 (σ' := (1, [some (.ref 0), some (.ref 42), none, none, none, none, none], [.ref 42], M)) rfl ?_
  refine pm_icI (as := [.ref 42]) (rest := []) rfl rfl rfl rfl (Nat.le_of_ble_eq_true rfl) rfl (fun r h => pm_Ev_mono (Nat.le_of_ble_eq_true rfl) (sSheet_isMissing_42_ok M r h)) (fun v2 M1 => ?_)
  show pm_Im _ _ _ _ _ _ (4, [some (.ref 0), some (.ref 42), none, none, none, none, none], [.int v2], M1)
  refine pm_iite (σ1 := (23, [some (.ref 0), some (.ref 42), none, none, none, none, none], [], M1)) (σ2 := (7, [some (.ref 0), some (.ref 42), none, none, none, none, none], [], M1)) rfl (fun _ => ?_) (fun _ => ?_)
  · refine pm_irun 1 (σ' := (24, [some (.ref 0), some (.ref 42), none, none, none, none, none], [.int (0 : Int32)], M1)) rfl ?_
    exact pm_irZ (Or.inl rfl) rfl rfl
  · refine pm_irun 7 (σ' := (20, [some (.ref 0), some (.ref 42), none, none, none, none, none], [.int ((2 : Int32) * (M1.1 1 0)), .int (M1.1 42 1)], M1)) rfl ?_
    refine pm_iite (σ1 := (25, [some (.ref 0), some (.ref 42), none, none, none, none, none], [], M1)) (σ2 := (23, [some (.ref 0), some (.ref 42), none, none, none, none, none], [], M1)) rfl (fun _ => ?_) (fun _ => ?_)
    · refine pm_irun 2 (σ' := (27, [some (.ref 0), some (.ref 42), some (.int (0 : Int32)), none, none, none, none], [], M1)) rfl ?_
      refine pm_iloop (fun (g : Int32 → pm_M → Option (Int32 × pm_M)) => ∀ (x5 : Int32) (M4 : pm_M), I_C_readState_0_42 (g x5 M4) (27, [some (.ref 0), some (.ref 42), some (.int x5), none, none, none, none], [], M4)) (fun _ _ => pm_inone) (fun g3 hg3 x5 M4 => ?_) 1000000 _ _
      show I_C_readState_0_42 _ (27, [some (.ref 0), some (.ref 42), some (.int x5), none, none, none, none], [], M4)
      refine pm_irun 2 (σ' := (29, [some (.ref 0), some (.ref 42), some (.int x5), none, none, none, none], [.int (2 : Int32), .int x5], M4)) rfl ?_
      refine pm_iite (σ1 := (155, [some (.ref 0), some (.ref 42), some (.int x5), none, none, none, none], [], M4)) (σ2 := (32, [some (.ref 0), some (.ref 42), some (.int x5), none, none, none, none], [], M4)) rfl (fun _ => ?_) (fun _ => ?_)
      · refine pm_irun 1 (σ' := (156, [some (.ref 0), some (.ref 42), some (.int x5), none, none, none, none], [.int (1 : Int32)], M4)) rfl ?_
        exact pm_irZ (Or.inr rfl) rfl rfl
      · refine pm_irun 4 (σ' := (40, [some (.ref 0), some (.ref 42), some (.int x5), none, none, none, none], [.int x5, .ref 5], M4)) rfl ?_
        refine pm_igd (σ1 := (41, [some (.ref 0), some (.ref 42), some (.int x5), none, none, none, none], [.int (M4.1 5 x5.toNatClampNeg)], M4)) rfl (fun _ => ?_)
        refine pm_irun 1 (σ' := (42, [some (.ref 0), some (.ref 42), some (.int x5), some (.int (M4.1 5 x5.toNatClampNeg)), none, none, none], [], M4)) rfl ?_
        refine pm_ilt (fun y => (42, [some (.ref 0), some (.ref 42), some (.int x5), some (.int y), none, none, none], [], M4)) (fun x6 => ?_)
        refine pm_irun 2 (σ' := (45, [some (.ref 0), some (.ref 42), some (.int x5), some (.int x6), some (.int (0 : Int32)), none, none], [], M4)) rfl ?_
        refine pm_iloop (fun (g : Int32 → Int32 → pm_M → Option (Int32 × pm_M)) => ∀ (x9 : Int32) (x10 : Int32) (M8 : pm_M), I_C_readState_0_42 (g x9 x10 M8) (45, [some (.ref 0), some (.ref 42), some (.int x5), some (.int x9), some (.int x10), none, none], [], M8)) (fun _ _ _ => pm_inone) (fun g7 hg7 x9 x10 M8 => ?_) 1000000 _ _ _
        show I_C_readState_0_42 _ (45, [some (.ref 0), some (.ref 42), some (.int x5), some (.int x9), some (.int x10), none, none], [], M8)
        refine pm_irun 4 (σ' := (54, [some (.ref 0), some (.ref 42), some (.int x5), some (.int x9), some (.int x10), none, none], [.int (M8.1 1 0), .int x10], M8)) rfl ?_
        refine pm_iite (σ1 := (143, [some (.ref 0), some (.ref 42), some (.int x5), some (.int x9), some (.int x10), none, none], [], M8)) (σ2 := (57, [some (.ref 0), some (.ref 42), some (.int x5), some (.int x9), some (.int x10), none, none], [], M8)) rfl (fun _ => ?_) (fun _ => ?_)
        · refine pm_irun 1 (σ' := (144, [some (.ref 0), some (.ref 42), some (.int x5), some (.int x9), some (.int x10), none, none], [.int x9], M8)) rfl ?_
          refine pm_iite (σ1 := (149, [some (.ref 0), some (.ref 42), some (.int x5), some (.int x9), some (.int x10), none, none], [], M8)) (σ2 := (147, [some (.ref 0), some (.ref 42), some (.int x5), some (.int x9), some (.int x10), none, none], [], M8)) rfl (fun _ => ?_) (fun _ => ?_)
          · refine pm_irun 1 (σ' := (152, [some (.ref 0), some (.ref 42), some (.int (x5 + (1 : Int32))), some (.int x9), some (.int x10), none, none], [], M8)) rfl ?_
            refine pm_ilt (fun y => (152, [some (.ref 0), some (.ref 42), some (.int y), some (.int x9), some (.int x10), none, none], [], M8)) (fun x11 => ?_)
            refine pm_irun 1 (σ' := (27, [some (.ref 0), some (.ref 42), some (.int x11), some (.int x9), some (.int x10), none, none], [], M8)) rfl ?_
            refine pm_iwk (al' := [some (.ref 0), some (.ref 42), some (.int x11), none, none, none, none]) (pm_wkS (pm_wkS (pm_wkS (pm_wkN (pm_wkN (pm_wkS (pm_wkS pm_wk0))))))) ?_
            exact hg3 _ _
          · refine pm_irun 1 (σ' := (148, [some (.ref 0), some (.ref 42), some (.int x5), some (.int x9), some (.int x10), none, none], [.int (0 : Int32)], M8)) rfl ?_
            exact pm_irZ (Or.inl rfl) rfl rfl
        · refine pm_irun 8 (σ' := (72, [some (.ref 0), some (.ref 42), some (.int x5), some (.int x9), some (.int x10), none, none], [.int x10, .int (x5 * (M8.1 1 0)), .ref 43], M8)) rfl ?_
          refine pm_irun 1 (σ' := (73, [some (.ref 0), some (.ref 42), some (.int x5), some (.int x9), some (.int x10), none, none], [.int ((x5 * (M8.1 1 0)) + x10), .ref 43], M8)) rfl ?_
          refine pm_igd (σ1 := (74, [some (.ref 0), some (.ref 42), some (.int x5), some (.int x9), some (.int x10), none, none], [.long (M8.2 43 ((x5 * (M8.1 1 0)) + x10).toNatClampNeg)], M8)) rfl (fun _ => ?_)
          refine pm_irun 1 (σ' := (76, [some (.ref 0), some (.ref 42), some (.int x5), some (.int x9), some (.int x10), some (.long (M8.2 43 ((x5 * (M8.1 1 0)) + x10).toNatClampNeg)), none], [], M8)) rfl ?_
          refine pm_ilt (fun y => (76, [some (.ref 0), some (.ref 42), some (.int x5), some (.int x9), some (.int x10), some (.long y), none], [], M8)) (fun x12 => ?_)
          refine pm_irun 3 (σ' := (80, [some (.ref 0), some (.ref 42), some (.int x5), some (.int x9), some (.int x10), some (.long x12), none], [.int (lg_cmp x12 (0 : Int64))], M8)) rfl ?_
          refine pm_iite (σ1 := (91, [some (.ref 0), some (.ref 42), some (.int x5), some (.int x9), some (.int x10), some (.long x12), none], [], M8)) (σ2 := (83, [some (.ref 0), some (.ref 42), some (.int x5), some (.int x9), some (.int x10), some (.long x12), none], [], M8)) rfl (fun _ => ?_) (fun _ => ?_)
          · refine pm_irun 1 (σ' := (92, [some (.ref 0), some (.ref 42), some (.int x5), some (.int x9), some (.int x10), some (.long x12), none], [.int (0 : Int32)], M8)) rfl ?_
            exact pm_irZ (Or.inl rfl) rfl rfl
          · refine pm_irun 4 (σ' := (88, [some (.ref 0), some (.ref 42), some (.int x5), some (.int x9), some (.int x10), some (.long x12), none], [.int (lg_cmp x12 x9.toInt64)], M8)) rfl ?_
            refine pm_iite (σ1 := (93, [some (.ref 0), some (.ref 42), some (.int x5), some (.int x9), some (.int x10), some (.long x12), none], [], M8)) (σ2 := (91, [some (.ref 0), some (.ref 42), some (.int x5), some (.int x9), some (.int x10), some (.long x12), none], [], M8)) rfl (fun _ => ?_) (fun _ => ?_)
            · refine pm_irun 3 (σ' := (97, [some (.ref 0), some (.ref 42), some (.int x5), some (.int x9), some (.int x10), some (.long x12), none], [.int (lg_cmp x12 (0 : Int64))], M8)) rfl ?_
              refine pm_ijn (fun (g : pm_M → Option (Int32 × pm_M)) => ∀ (M14 : pm_M), I_C_readState_0_42 (g M14) (117, [some (.ref 0), some (.ref 42), some (.int x5), some (.int x9), some (.int x10), some (.long x12), none], [], M14)) (fun (M14 : pm_M) => ?_) (fun j13 hj13 => ?_)
              · show I_C_readState_0_42 _ (117, [some (.ref 0), some (.ref 42), some (.int x5), some (.int x9), some (.int x10), some (.long x12), none], [], M14)
                refine pm_irun 8 (σ' := (129, [some (.ref 0), some (.ref 42), some (.int x5), some (.int x9), some (.int x10), some (.long x12), none], [.long x12, .int ((x5 * (5 : Int32)) + x10), .ref 48], M14)) rfl ?_
                refine pm_irun 1 (σ' := (130, [some (.ref 0), some (.ref 42), some (.int x5), some (.int x9), some (.int x10), some (.long x12), none], [.int x12.toInt32, .int ((x5 * (5 : Int32)) + x10), .ref 48], M14)) rfl ?_
                refine pm_igd (σ1 := (131, [some (.ref 0), some (.ref 42), some (.int x5), some (.int x9), some (.int x10), some (.long x12), none], [], (pm_sI M14 48 ((x5 * (5 : Int32)) + x10).toNatClampNeg (x12.toInt32)))) rfl (fun _ => ?_)
                refine pm_ilt (fun y => (131, [some (.ref 0), some (.ref 42), some (.int x5), some (.int x9), some (.int x10), some (.long x12), none], [], y)) (fun M15 => ?_)
                refine pm_irun 5 (σ' := (137, [some (.ref 0), some (.ref 42), some (.int x5), some (.int (x9 - x12.toInt32)), some (.int x10), some (.long x12), none], [], M15)) rfl ?_
                refine pm_ilt (fun y => (137, [some (.ref 0), some (.ref 42), some (.int x5), some (.int y), some (.int x10), some (.long x12), none], [], M15)) (fun x16 => ?_)
                refine pm_irun 1 (σ' := (140, [some (.ref 0), some (.ref 42), some (.int x5), some (.int x16), some (.int (x10 + (1 : Int32))), some (.long x12), none], [], M15)) rfl ?_
                refine pm_ilt (fun y => (140, [some (.ref 0), some (.ref 42), some (.int x5), some (.int x16), some (.int y), some (.long x12), none], [], M15)) (fun x17 => ?_)
                refine pm_irun 1 (σ' := (45, [some (.ref 0), some (.ref 42), some (.int x5), some (.int x16), some (.int x17), some (.long x12), none], [], M15)) rfl ?_
                refine pm_iwk (al' := [some (.ref 0), some (.ref 42), some (.int x5), some (.int x16), some (.int x17), none, none]) (pm_wkS (pm_wkS (pm_wkS (pm_wkS (pm_wkS (pm_wkN (pm_wkS pm_wk0))))))) ?_
                exact hg7 _ _ _
              refine pm_iite (σ1 := (117, [some (.ref 0), some (.ref 42), some (.int x5), some (.int x9), some (.int x10), some (.long x12), none], [], M8)) (σ2 := (100, [some (.ref 0), some (.ref 42), some (.int x5), some (.int x9), some (.int x10), some (.long x12), none], [], M8)) rfl (fun _ => ?_) (fun _ => ?_)
              · exact hj13 _
              · refine pm_irun 4 (σ' := (107, [some (.ref 0), some (.ref 42), some (.int x5), some (.int x9), some (.int x10), some (.long x12), none], [.int x10, .int x5, .ref 15], M8)) rfl ?_
                refine pm_icL (as := [.ref 15, .int x5, .int x10]) (rest := []) rfl rfl rfl rfl (Nat.le_of_ble_eq_true rfl) rfl (fun r h => pm_Ev_mono (Nat.le_of_ble_eq_true rfl) (sTours_visitsOf_ok x5 x10 M8 r h)) (fun v19 M18 => ?_)
                show pm_Im _ _ _ _ _ _ (110, [some (.ref 0), some (.ref 42), some (.int x5), some (.int x9), some (.int x10), some (.long x12), none], [.long v19], M18)
                refine pm_irun 2 (σ' := (112, [some (.ref 0), some (.ref 42), some (.int x5), some (.int x9), some (.int x10), some (.long x12), none], [.int (lg_cmp v19 (0 : Int64))], M18)) rfl ?_
                refine pm_iite (σ1 := (117, [some (.ref 0), some (.ref 42), some (.int x5), some (.int x9), some (.int x10), some (.long x12), none], [], M18)) (σ2 := (115, [some (.ref 0), some (.ref 42), some (.int x5), some (.int x9), some (.int x10), some (.long x12), none], [], M18)) rfl (fun _ => ?_) (fun _ => ?_)
                · exact hj13 _
                · refine pm_irun 1 (σ' := (116, [some (.ref 0), some (.ref 42), some (.int x5), some (.int x9), some (.int x10), some (.long x12), none], [.int (0 : Int32)], M18)) rfl ?_
                  exact pm_irZ (Or.inl rfl) rfl rfl
            · refine pm_irun 1 (σ' := (92, [some (.ref 0), some (.ref 42), some (.int x5), some (.int x9), some (.int x10), some (.long x12), none], [.int (0 : Int32)], M8)) rfl ?_
              exact pm_irZ (Or.inl rfl) rfl rfl
    · refine pm_irun 1 (σ' := (24, [some (.ref 0), some (.ref 42), none, none, none, none, none], [.int (0 : Int32)], M1)) rfl ?_
      exact pm_irZ (Or.inl rfl) rfl rfl
def sSheet_isMissing_44  (M : pm_M) : Option (Int32 × pm_M) := if ¬ (M.1 44 0) = (-1 : Int32) then (some ((0 : Int32), M)) else (some ((1 : Int32), M))
abbrev I_Sheet_isMissing_44 (sh : Option (Int32 × pm_M)) (σ : pm_St) : Prop := pm_Im none (pm_Ev 0) pm_T9 (some .boolean) pm_rI sh σ
set_option maxHeartbeats 4000000 in
set_option maxRecDepth 100000 in
theorem sSheet_isMissing_44_ok  (M : pm_M) : ∀ r, sSheet_isMissing_44  M = some r → pm_Ev 1 9 [.ref 44] M (pm_rI r).1 (pm_rI r).2 := by
  refine pm_meth (al := [some (.ref 44)]) rfl rfl rfl rfl rfl ?_
  unfold sSheet_isMissing_44
  show I_Sheet_isMissing_44 _ (0, [some (.ref 44)], [], M)
  refine pm_irun 3 (σ' := (5, [some (.ref 44)], [.int (-1 : Int32), .int (M.1 44 0)], M)) rfl ?_
  refine pm_iite (σ1 := (12, [some (.ref 44)], [], M)) (σ2 := (8, [some (.ref 44)], [], M)) rfl (fun _ => ?_) (fun _ => ?_)
  · refine pm_irun 1 (σ' := (13, [some (.ref 44)], [.int (0 : Int32)], M)) rfl ?_
    exact pm_irZ (Or.inl rfl) rfl rfl
  · refine pm_irun 2 (σ' := (13, [some (.ref 44)], [.int (1 : Int32)], M)) rfl ?_
    exact pm_irZ (Or.inr rfl) rfl rfl
