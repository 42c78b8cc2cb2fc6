def sC_turn (a1 : Int32) (M : pm_M) : Option (Int32 × pm_M) := if a1 < (1 : Int32) then (some ((-2 : Int32), M)) else (if a1 ≤ (60 : Int32) then (if ¬ (M.1 30 0) = 0 then (pm_loop (fun _ _ _ => none) (fun (g1 : Int32 → Int32 → pm_M → Option (Int32 × pm_M)) x3 x4 M2 => if a1 ≤ x4 then (some (x3, M2)) else (pm_bd (sTruth_turnOnce M2) fun v6 M5 => pm_lt ((x3 + v6)) fun x7 => pm_lt ((x4 + (1 : Int32))) fun x8 => g1 x7 x8 M5)) 1000000 (0 : Int32) (0 : Int32) M) else (some ((-3 : Int32), M))) else (some ((-2 : Int32), M)))
abbrev I_C_turn (sh : Option (Int32 × pm_M)) (σ : pm_St) : Prop := pm_Im none (pm_Ev 4) pm_T81 (some .int) pm_rI sh σ
set_option maxHeartbeats 4000000 in
set_option maxRecDepth 100000 in
theorem sC_turn_ok (a1 : Int32) (M : pm_M) : ∀ r, sC_turn a1 M = some r → pm_Ev 5 81 [.ref 0, .int a1] M (pm_rI r).1 (pm_rI r).2 := by
  refine pm_meth (al := [some (.ref 0), some (.int a1), none, none]) rfl rfl rfl rfl rfl ?_
  unfold sC_turn
  show I_C_turn _ (0, [some (.ref 0), some (.int a1), none, none], [], M)
  refine pm_irun 2 (σ' := (2, [some (.ref 0), some (.int a1), none, none], [.int (1 : Int32), .int a1], M)) rfl ?_
  refine pm_iite (σ1 := (11, [some (.ref 0), some (.int a1), none, none], [], M)) (σ2 := (5, [some (.ref 0), some (.int a1), none, none], [], M)) rfl (fun _ => ?_) (fun _ => ?_)
  · refine pm_irun 1 (σ' := (13, [some (.ref 0), some (.int a1), none, none], [.int (-2 : Int32)], M)) rfl ?_
    exact pm_irI rfl rfl
  · refine pm_irun 2 (σ' := (8, [some (.ref 0), some (.int a1), none, none], [.int (60 : Int32), .int a1], M)) rfl ?_
    refine pm_iite (σ1 := (14, [some (.ref 0), some (.int a1), none, none], [], M)) (σ2 := (11, [some (.ref 0), some (.int a1), none, none], [], M)) rfl (fun _ => ?_) (fun _ => ?_)
    · refine pm_irun 3 (σ' := (21, [some (.ref 0), some (.int a1), none, none], [.int (M.1 30 0)], M)) rfl ?_
      refine pm_iite (σ1 := (27, [some (.ref 0), some (.int a1), none, none], [], M)) (σ2 := (24, [some (.ref 0), some (.int a1), none, none], [], M)) rfl (fun _ => ?_) (fun _ => ?_)
      · refine pm_irun 2 (σ' := (29, [some (.ref 0), some (.int a1), some (.int (0 : Int32)), none], [], M)) rfl ?_
        refine pm_irun 2 (σ' := (31, [some (.ref 0), some (.int a1), some (.int (0 : Int32)), some (.int (0 : Int32))], [], M)) rfl ?_
        refine pm_iloop (fun (g : Int32 → Int32 → pm_M → Option (Int32 × pm_M)) => ∀ (x3 : Int32) (x4 : Int32) (M2 : pm_M), I_C_turn (g x3 x4 M2) (31, [some (.ref 0), some (.int a1), some (.int x3), some (.int x4)], [], M2)) (fun _ _ _ => pm_inone) (fun g1 hg1 x3 x4 M2 => ?_) 1000000 _ _ _
        show I_C_turn _ (31, [some (.ref 0), some (.int a1), some (.int x3), some (.int x4)], [], M2)
        refine pm_irun 2 (σ' := (33, [some (.ref 0), some (.int a1), some (.int x3), some (.int x4)], [.int a1, .int x4], M2)) rfl ?_
        refine pm_iite (σ1 := (56, [some (.ref 0), some (.int a1), some (.int x3), some (.int x4)], [], M2)) (σ2 := (36, [some (.ref 0), some (.int a1), some (.int x3), some (.int x4)], [], M2)) rfl (fun _ => ?_) (fun _ => ?_)
        · refine pm_irun 1 (σ' := (57, [some (.ref 0), some (.int a1), some (.int x3), some (.int x4)], [.int x3], M2)) rfl ?_
          exact pm_irI rfl rfl
        · refine pm_irun 5 (σ' := (45, [some (.ref 0), some (.int a1), some (.int x3), some (.int x4)], [.ref 1, .ref 30, .int x3], M2)) rfl ?_
          refine pm_icI (as := [.ref 30, .ref 1]) (rest := [.int x3]) rfl rfl rfl rfl (Nat.le_of_ble_eq_true rfl) rfl (fun r h => pm_Ev_mono (Nat.le_of_ble_eq_true rfl) (sTruth_turnOnce_ok M2 r h)) (fun v6 M5 => ?_)
          show pm_Im _ _ _ _ _ _ (48, [some (.ref 0), some (.int a1), some (.int x3), some (.int x4)], [.int v6, .int x3], M5)
          refine pm_irun 2 (σ' := (50, [some (.ref 0), some (.int a1), some (.int (x3 + v6)), some (.int x4)], [], M5)) rfl ?_
          refine pm_ilt (fun y => (50, [some (.ref 0), some (.int a1), some (.int y), some (.int x4)], [], M5)) (fun x7 => ?_)
          refine pm_irun 1 (σ' := (53, [some (.ref 0), some (.int a1), some (.int x7), some (.int (x4 + (1 : Int32)))], [], M5)) rfl ?_
          refine pm_ilt (fun y => (53, [some (.ref 0), some (.int a1), some (.int x7), some (.int y)], [], M5)) (fun x8 => ?_)
          refine pm_irun 1 (σ' := (31, [some (.ref 0), some (.int a1), some (.int x7), some (.int x8)], [], M5)) rfl ?_
          exact hg1 _ _ _
      · refine pm_irun 1 (σ' := (26, [some (.ref 0), some (.int a1), none, none], [.int (-3 : Int32)], M)) rfl ?_
        exact pm_irI rfl rfl
    · refine pm_irun 1 (σ' := (13, [some (.ref 0), some (.int a1), none, none], [.int (-2 : Int32)], M)) rfl ?_
      exact pm_irI rfl rfl
def sR_drawn (a1 : Int32) (M : pm_M) : Option (Int32 × pm_M) := pm_lt (pm_sI M 49 28 ((((M.1 49 28) * (1103515245 : Int32)) + (12345 : Int32)))) fun M1 => if ¬ a1 = 0 then (some ((((M1.1 49 28).toUInt32 >>> ((16 : Int32).toUInt32 &&& Int32.toUInt32 31)).toInt32 - ((M1.1 49 28).toUInt32 >>> ((16 : Int32).toUInt32 &&& Int32.toUInt32 31)).toInt32 / a1 * a1), M1)) else none
abbrev I_R_drawn (sh : Option (Int32 × pm_M)) (σ : pm_St) : Prop := pm_Im none (pm_Ev 0) pm_T185 (some .int) pm_rI sh σ
set_option maxHeartbeats 4000000 in
set_option maxRecDepth 100000 in
theorem sR_drawn_ok (a1 : Int32) (M : pm_M) : ∀ r, sR_drawn a1 M = some r → pm_Ev 1 185 [.ref 49, .int a1] M (pm_rI r).1 (pm_rI r).2 := by
  refine pm_meth (al := [some (.ref 49), some (.int a1)]) rfl rfl rfl rfl rfl ?_
  unfold sR_drawn
  show I_R_drawn _ (0, [some (.ref 49), some (.int a1)], [], M)
  refine pm_irun 7 (σ' := (13, [some (.ref 49), some (.int a1)], [.int (((M.1 49 28) * (1103515245 : Int32)) + (12345 : Int32)), .ref 49], M)) rfl ?_
  refine pm_irun 1 (σ' := (16, [some (.ref 49), some (.int a1)], [], (pm_sI M 49 28 ((((M.1 49 28) * (1103515245 : Int32)) + (12345 : Int32)))))) rfl ?_
  refine pm_ilt (fun y => (16, [some (.ref 49), some (.int a1)], [], y)) (fun M1 => ?_)
  refine pm_irun 5 (σ' := (24, [some (.ref 49), some (.int a1)], [.int a1, .int ((M1.1 49 28).toUInt32 >>> ((16 : Int32).toUInt32 &&& Int32.toUInt32 31)).toInt32], M1)) rfl ?_
  refine pm_igd (σ1 := (25, [some (.ref 49), some (.int a1)], [.int (((M1.1 49 28).toUInt32 >>> ((16 : Int32).toUInt32 &&& Int32.toUInt32 31)).toInt32 - ((M1.1 49 28).toUInt32 >>> ((16 : Int32).toUInt32 &&& Int32.toUInt32 31)).toInt32 / a1 * a1)], M1)) rfl (fun _ => ?_)
  exact pm_irI rfl rfl
def sR_leads (a1 : Int32) (a2 : Int32) (M : pm_M) : Option (Int32 × pm_M) := pm_bd (sR_weights a1 a2 M) fun v2 M1 => pm_bd (sR_drawn v2 M1) fun v4 M3 => pm_loop (fun _ _ _ => none) (fun (g5 : Int32 → Int32 → pm_M → Option (Int32 × pm_M)) x7 x8 M6 => if (M6.1 49 1) ≤ x8 then (some (a2, M6)) else (pm_bd (sR_routeAt a1 a2 x8 M6) fun v10 M9 => if pm_in v10 50 then (pm_lt ((x7 + (M9.1 54 v10.toNatClampNeg))) fun x11 => if x11 ≤ v4 then (pm_lt ((x8 + (1 : Int32))) fun x12 => g5 x11 x12 M9) else (some (x8, M9))) else none)) 1000000 (0 : Int32) (0 : Int32) M3
abbrev I_R_leads (sh : Option (Int32 × pm_M)) (σ : pm_St) : Prop := pm_Im none (pm_Ev 2) pm_T186 (some .int) pm_rI sh σ
set_option maxHeartbeats 4000000 in
set_option maxRecDepth 100000 in
theorem sR_leads_ok (a1 : Int32) (a2 : Int32) (M : pm_M) : ∀ r, sR_leads a1 a2 M = some r → pm_Ev 3 186 [.ref 49, .int a1, .int a2] M (pm_rI r).1 (pm_rI r).2 := by
  refine pm_meth (al := [some (.ref 49), some (.int a1), some (.int a2), none, none, none]) rfl rfl rfl rfl rfl ?_
  unfold sR_leads
  show I_R_leads _ (0, [some (.ref 49), some (.int a1), some (.int a2), none, none, none], [], M)
  refine pm_irun 4 (σ' := (4, [some (.ref 49), some (.int a1), some (.int a2), none, none, none], [.int a2, .int a1, .ref 49, .ref 49], M)) rfl ?_
  refine pm_icI (as := [.ref 49, .int a1, .int a2]) (rest := [.ref 49]) rfl rfl rfl rfl (Nat.le_of_ble_eq_true rfl) rfl (fun r h => pm_Ev_mono (Nat.le_of_ble_eq_true rfl) (sR_weights_ok a1 a2 M r h)) (fun v2 M1 => ?_)
  show pm_Im _ _ _ _ _ _ (7, [some (.ref 49), some (.int a1), some (.int a2), none, none, none], [.int v2, .ref 49], M1)
  refine pm_icI (as := [.ref 49, .int v2]) (rest := []) rfl rfl rfl rfl (Nat.le_of_ble_eq_true rfl) rfl (fun r h => pm_Ev_mono (Nat.le_of_ble_eq_true rfl) (sR_drawn_ok v2 M1 r h)) (fun v4 M3 => ?_)
  show pm_Im _ _ _ _ _ _ (10, [some (.ref 49), some (.int a1), some (.int a2), none, none, none], [.int v4], M3)
  refine pm_irun 1 (σ' := (11, [some (.ref 49), some (.int a1), some (.int a2), some (.int v4), none, none], [], M3)) rfl ?_
  refine pm_irun 2 (σ' := (14, [some (.ref 49), some (.int a1), some (.int a2), some (.int v4), some (.int (0 : Int32)), none], [], M3)) rfl ?_
  refine pm_irun 2 (σ' := (17, [some (.ref 49), some (.int a1), some (.int a2), some (.int v4), some (.int (0 : Int32)), some (.int (0 : Int32))], [], M3)) rfl ?_
  refine pm_iloop (fun (g : Int32 → Int32 → pm_M → Option (Int32 × pm_M)) => ∀ (x7 : Int32) (x8 : Int32) (M6 : pm_M), I_R_leads (g x7 x8 M6) (17, [some (.ref 49), some (.int a1), some (.int a2), some (.int v4), some (.int x7), some (.int x8)], [], M6)) (fun _ _ _ => pm_inone) (fun g5 hg5 x7 x8 M6 => ?_) 1000000 _ _ _
  show I_R_leads _ (17, [some (.ref 49), some (.int a1), some (.int a2), some (.int v4), some (.int x7), some (.int x8)], [], M6)
  refine pm_irun 3 (σ' := (23, [some (.ref 49), some (.int a1), some (.int a2), some (.int v4), some (.int x7), some (.int x8)], [.int (M6.1 49 1), .int x8], M6)) rfl ?_
  refine pm_iite (σ1 := (58, [some (.ref 49), some (.int a1), some (.int a2), some (.int v4), some (.int x7), some (.int x8)], [], M6)) (σ2 := (26, [some (.ref 49), some (.int a1), some (.int a2), some (.int v4), some (.int x7), some (.int x8)], [], M6)) rfl (fun _ => ?_) (fun _ => ?_)
  · refine pm_irun 1 (σ' := (59, [some (.ref 49), some (.int a1), some (.int a2), some (.int v4), some (.int x7), some (.int x8)], [.int a2], M6)) rfl ?_
    exact pm_irI rfl rfl
  · refine pm_irun 6 (σ' := (36, [some (.ref 49), some (.int a1), some (.int a2), some (.int v4), some (.int x7), some (.int x8)], [.int x8, .int a2, .int a1, .ref 54, .int x7], M6)) rfl ?_
    refine pm_icI (as := [.int a1, .int a2, .int x8]) (rest := [.ref 54, .int x7]) rfl rfl rfl rfl (Nat.le_of_ble_eq_true rfl) rfl (fun r h => pm_Ev_mono (Nat.le_of_ble_eq_true rfl) (sR_routeAt_ok a1 a2 x8 M6 r h)) (fun v10 M9 => ?_)
    show pm_Im _ _ _ _ _ _ (39, [some (.ref 49), some (.int a1), some (.int a2), some (.int v4), some (.int x7), some (.int x8)], [.int v10, .ref 54, .int x7], M9)
    refine pm_igd (σ1 := (40, [some (.ref 49), some (.int a1), some (.int a2), some (.int v4), some (.int x7), some (.int x8)], [.int (M9.1 54 v10.toNatClampNeg), .int x7], M9)) rfl (fun _ => ?_)
    refine pm_irun 2 (σ' := (43, [some (.ref 49), some (.int a1), some (.int a2), some (.int v4), some (.int (x7 + (M9.1 54 v10.toNatClampNeg))), some (.int x8)], [], M9)) rfl ?_
    refine pm_ilt (fun y => (43, [some (.ref 49), some (.int a1), some (.int a2), some (.int v4), some (.int y), some (.int x8)], [], M9)) (fun x11 => ?_)
    refine pm_irun 2 (σ' := (46, [some (.ref 49), some (.int a1), some (.int a2), some (.int v4), some (.int x11), some (.int x8)], [.int v4, .int x11], M9)) rfl ?_
    refine pm_iite (σ1 := (52, [some (.ref 49), some (.int a1), some (.int a2), some (.int v4), some (.int x11), some (.int x8)], [], M9)) (σ2 := (49, [some (.ref 49), some (.int a1), some (.int a2), some (.int v4), some (.int x11), some (.int x8)], [], M9)) rfl (fun _ => ?_) (fun _ => ?_)
    · refine pm_irun 1 (σ' := (55, [some (.ref 49), some (.int a1), some (.int a2), some (.int v4), some (.int x11), some (.int (x8 + (1 : Int32)))], [], M9)) rfl ?_
      refine pm_ilt (fun y => (55, [some (.ref 49), some (.int a1), some (.int a2), some (.int v4), some (.int x11), some (.int y)], [], M9)) (fun x12 => ?_)
      refine pm_irun 1 (σ' := (17, [some (.ref 49), some (.int a1), some (.int a2), some (.int v4), some (.int x11), some (.int x12)], [], M9)) rfl ?_
      exact hg5 _ _ _
    · refine pm_irun 1 (σ' := (51, [some (.ref 49), some (.int a1), some (.int a2), some (.int v4), some (.int x11), some (.int x8)], [.int x8], M9)) rfl ?_
      exact pm_irI rfl rfl
def sR_isOver (a1 : Int32) (a2 : Int32) (M : pm_M) : Option (Int32 × pm_M) := if pm_in (((8 : Int32) * a1) + a2) 40 then (pm_lt ((M.1 67 (((8 : Int32) * a1) + a2).toNatClampNeg)) fun x1 => if pm_in x1 8 then (if pm_in x1 8 then (pm_lt (pm_sI M 68 x1.toNatClampNeg (((M.1 68 x1.toNatClampNeg) - (1 : Int32)))) fun M2 => if pm_in x1 8 then (if ¬ (M2.1 68 x1.toNatClampNeg) = 0 then (some ((0 : Int32), M2)) else (some ((1 : Int32), M2))) else none) else none) else none) else none
abbrev I_R_isOver (sh : Option (Int32 × pm_M)) (σ : pm_St) : Prop := pm_Im none (pm_Ev 0) pm_T183 (some .boolean) pm_rI sh σ
set_option maxHeartbeats 4000000 in
set_option maxRecDepth 100000 in
theorem sR_isOver_ok (a1 : Int32) (a2 : Int32) (M : pm_M) : ∀ r, sR_isOver a1 a2 M = some r → pm_Ev 1 183 [.ref 49, .int a1, .int a2] M (pm_rI r).1 (pm_rI r).2 := by
  refine pm_meth (al := [some (.ref 49), some (.int a1), some (.int a2), none]) rfl rfl rfl rfl rfl ?_
  unfold sR_isOver
  show I_R_isOver _ (0, [some (.ref 49), some (.int a1), some (.int a2), none], [], M)
  refine pm_irun 7 (σ' := (10, [some (.ref 49), some (.int a1), some (.int a2), none], [.int (((8 : Int32) * a1) + a2), .ref 67], M)) rfl ?_
  refine pm_igd (σ1 := (11, [some (.ref 49), some (.int a1), some (.int a2), none], [.int (M.1 67 (((8 : Int32) * a1) + a2).toNatClampNeg)], M)) rfl (fun _ => ?_)
  refine pm_irun 1 (σ' := (12, [some (.ref 49), some (.int a1), some (.int a2), some (.int (M.1 67 (((8 : Int32) * a1) + a2).toNatClampNeg))], [], M)) rfl ?_
  refine pm_ilt (fun y => (12, [some (.ref 49), some (.int a1), some (.int a2), some (.int y)], [], M)) (fun x1 => ?_)
  refine pm_irun 4 (σ' := (18, [some (.ref 49), some (.int a1), some (.int a2), some (.int x1)], [.int x1, .ref 68, .int x1, .ref 68], M)) rfl ?_
  refine pm_igd (σ1 := (19, [some (.ref 49), some (.int a1), some (.int a2), some (.int x1)], [.int (M.1 68 x1.toNatClampNeg), .int x1, .ref 68], M)) rfl (fun _ => ?_)
  refine pm_irun 2 (σ' := (21, [some (.ref 49), some (.int a1), some (.int a2), some (.int x1)], [.int ((M.1 68 x1.toNatClampNeg) - (1 : Int32)), .int x1, .ref 68], M)) rfl ?_
  refine pm_igd (σ1 := (22, [some (.ref 49), some (.int a1), some (.int a2), some (.int x1)], [], (pm_sI M 68 x1.toNatClampNeg (((M.1 68 x1.toNatClampNeg) - (1 : Int32)))))) rfl (fun _ => ?_)
  refine pm_ilt (fun y => (22, [some (.ref 49), some (.int a1), some (.int a2), some (.int x1)], [], y)) (fun M2 => ?_)
  refine pm_irun 3 (σ' := (27, [some (.ref 49), some (.int a1), some (.int a2), some (.int x1)], [.int x1, .ref 68], M2)) rfl ?_
  refine pm_igd (σ1 := (28, [some (.ref 49), some (.int a1), some (.int a2), some (.int x1)], [.int (M2.1 68 x1.toNatClampNeg)], M2)) rfl (fun _ => ?_)
  refine pm_iite (σ1 := (35, [some (.ref 49), some (.int a1), some (.int a2), some (.int x1)], [], M2)) (σ2 := (31, [some (.ref 49), some (.int a1), some (.int a2), some (.int x1)], [], M2)) rfl (fun _ => ?_) (fun _ => ?_)
  · refine pm_irun 1 (σ' := (36, [some (.ref 49), some (.int a1), some (.int a2), some (.int x1)], [.int (0 : Int32)], M2)) rfl ?_
    exact pm_irZ (Or.inl rfl) rfl rfl
  · refine pm_irun 2 (σ' := (36, [some (.ref 49), some (.int a1), some (.int a2), some (.int x1)], [.int (1 : Int32)], M2)) rfl ?_
    exact pm_irZ (Or.inr rfl) rfl rfl
def sR_goes (a1 : Int32) (a2 : Int32) (a3 : Int32) (M : pm_M) : Option (pm_M) := if pm_in (((8 : Int32) * a1) + a2) 40 then (pm_lt ((M.1 67 (((8 : Int32) * a1) + a2).toNatClampNeg)) fun x1 => pm_lt ((a2 + (1 : Int32))) fun x2 => pm_loop (fun _ _ => none) (fun (g3 : Int32 → pm_M → Option (pm_M)) x5 M4 => if pm_in a1 5 then (if (M4.1 66 a1.toNatClampNeg) ≤ x5 then (if pm_in a1 5 then (if pm_in ((((8 : Int32) * a1) + (M4.1 66 a1.toNatClampNeg)) - (1 : Int32)) 40 then (pm_lt (pm_sI M4 67 ((((8 : Int32) * a1) + (M4.1 66 a1.toNatClampNeg)) - (1 : Int32)).toNatClampNeg x1) fun M6 => if ¬ a3 = 0 then (if pm_in a1 5 then (if pm_in a1 5 then (pm_lt (pm_sI M6 66 a1.toNatClampNeg (((M6.1 66 a1.toNatClampNeg) - (1 : Int32)))) fun M7 => if pm_in (M7.1 49 29) 8 then (pm_lt (pm_sI M7 70 (M7.1 49 29).toNatClampNeg x1) fun M8 => if pm_in (M8.1 49 29) 8 then (pm_lt (pm_sI M8 71 (M8.1 49 29).toNatClampNeg a1) fun M9 => pm_lt (pm_sI M9 49 29 (((M9.1 49 29) + (1 : Int32)))) fun M10 => pm_bd (sR_classOf x1 M10) fun v12 M11 => if pm_in (((5 : Int32) * v12) + a1) 10 then (if pm_in (((5 : Int32) * v12) + a1) 10 then (pm_lt (pm_sI M11 69 (((5 : Int32) * v12) + a1).toNatClampNeg (((M11.1 69 (((5 : Int32) * v12) + a1).toNatClampNeg) + (1 : Int32)))) fun M13 => some M13) else none) else none) else none) else none) else none) else none) else (some M6)) else none) else none) else (if pm_in (((8 : Int32) * a1) + x5) 40 then (if pm_in ((((8 : Int32) * a1) + x5) - (1 : Int32)) 40 then (pm_lt (pm_sI M4 67 ((((8 : Int32) * a1) + x5) - (1 : Int32)).toNatClampNeg ((M4.1 67 (((8 : Int32) * a1) + x5).toNatClampNeg))) fun M14 => pm_lt ((x5 + (1 : Int32))) fun x15 => g3 x15 M14) else none) else none)) else none) 1000000 x2 M) else none
abbrev I_R_goes (sh : Option (pm_M)) (σ : pm_St) : Prop := pm_Im none (pm_Ev 1) pm_T182 none pm_rV sh σ
set_option maxHeartbeats 4000000 in
set_option maxRecDepth 100000 in
theorem sR_goes_ok (a1 : Int32) (a2 : Int32) (a3 : Int32) (M : pm_M) : ∀ r, sR_goes a1 a2 a3 M = some r → pm_Ev 2 182 [.ref 49, .int a1, .int a2, .int a3] M (pm_rV r).1 (pm_rV r).2 := by
  refine pm_meth (al := [some (.ref 49), some (.int a1), some (.int a2), some (.int a3), none, none]) rfl rfl rfl rfl rfl ?_
  unfold sR_goes
  show I_R_goes _ (0, [some (.ref 49), some (.int a1), some (.int a2), some (.int a3), none, none], [], M)
  refine pm_irun 7 (σ' := (10, [some (.ref 49), some (.int a1), some (.int a2), some (.int a3), none, none], [.int (((8 : Int32) * a1) + a2), .ref 67], M)) rfl ?_
  refine pm_igd (σ1 := (11, [some (.ref 49), some (.int a1), some (.int a2), some (.int a3), none, none], [.int (M.1 67 (((8 : Int32) * a1) + a2).toNatClampNeg)], M)) rfl (fun _ => ?_)
  refine pm_irun 1 (σ' := (13, [some (.ref 49), some (.int a1), some (.int a2), some (.int a3), some (.int (M.1 67 (((8 : Int32) * a1) + a2).toNatClampNeg)), none], [], M)) rfl ?_
  refine pm_ilt (fun y => (13, [some (.ref 49), some (.int a1), some (.int a2), some (.int a3), some (.int y), none], [], M)) (fun x1 => ?_)
  refine pm_irun 4 (σ' := (18, [some (.ref 49), some (.int a1), some (.int a2), some (.int a3), some (.int x1), some (.int (a2 + (1 : Int32)))], [], M)) rfl ?_
  refine pm_ilt (fun y => (18, [some (.ref 49), some (.int a1), some (.int a2), some (.int a3), some (.int x1), some (.int y)], [], M)) (fun x2 => ?_)
  refine pm_iwk (al' := [some (.ref 49), some (.int a1), none, some (.int a3), some (.int x1), some (.int x2)]) (pm_wkS (pm_wkS (pm_wkN (pm_wkS (pm_wkS (pm_wkS pm_wk0)))))) ?_
  refine pm_iloop (fun (g : Int32 → pm_M → Option (pm_M)) => ∀ (x5 : Int32) (M4 : pm_M), I_R_goes (g x5 M4) (18, [some (.ref 49), some (.int a1), none, some (.int a3), some (.int x1), some (.int x5)], [], M4)) (fun _ _ => pm_inone) (fun g3 hg3 x5 M4 => ?_) 1000000 _ _
  show I_R_goes _ (18, [some (.ref 49), some (.int a1), none, some (.int a3), some (.int x1), some (.int x5)], [], M4)
  refine pm_irun 4 (σ' := (25, [some (.ref 49), some (.int a1), none, some (.int a3), some (.int x1), some (.int x5)], [.int a1, .ref 66, .int x5], M4)) rfl ?_
  refine pm_igd (σ1 := (26, [some (.ref 49), some (.int a1), none, some (.int a3), some (.int x1), some (.int x5)], [.int (M4.1 66 a1.toNatClampNeg), .int x5], M4)) rfl (fun _ => ?_)
  refine pm_iite (σ1 := (61, [some (.ref 49), some (.int a1), none, some (.int a3), some (.int x1), some (.int x5)], [], M4)) (σ2 := (29, [some (.ref 49), some (.int a1), none, some (.int a3), some (.int x1), some (.int x5)], [], M4)) rfl (fun _ => ?_) (fun _ => ?_)
  · refine pm_irun 8 (σ' := (74, [some (.ref 49), some (.int a1), none, some (.int a3), some (.int x1), some (.int x5)], [.int a1, .ref 66, .int ((8 : Int32) * a1), .ref 67], M4)) rfl ?_
    refine pm_igd (σ1 := (75, [some (.ref 49), some (.int a1), none, some (.int a3), some (.int x1), some (.int x5)], [.int (M4.1 66 a1.toNatClampNeg), .int ((8 : Int32) * a1), .ref 67], M4)) rfl (fun _ => ?_)
    refine pm_irun 4 (σ' := (80, [some (.ref 49), some (.int a1), none, some (.int a3), some (.int x1), some (.int x5)], [.int x1, .int ((((8 : Int32) * a1) + (M4.1 66 a1.toNatClampNeg)) - (1 : Int32)), .ref 67], M4)) rfl ?_
    refine pm_igd (σ1 := (81, [some (.ref 49), some (.int a1), none, some (.int a3), some (.int x1), some (.int x5)], [], (pm_sI M4 67 ((((8 : Int32) * a1) + (M4.1 66 a1.toNatClampNeg)) - (1 : Int32)).toNatClampNeg x1))) rfl (fun _ => ?_)
    refine pm_ilt (fun y => (81, [some (.ref 49), some (.int a1), none, some (.int a3), some (.int x1), some (.int x5)], [], y)) (fun M6 => ?_)
    refine pm_irun 1 (σ' := (82, [some (.ref 49), some (.int a1), none, some (.int a3), some (.int x1), some (.int x5)], [.int a3], M6)) rfl ?_
    refine pm_iite (σ1 := (86, [some (.ref 49), some (.int a1), none, some (.int a3), some (.int x1), some (.int x5)], [], M6)) (σ2 := (85, [some (.ref 49), some (.int a1), none, some (.int a3), some (.int x1), some (.int x5)], [], M6)) rfl (fun _ => ?_) (fun _ => ?_)
    · refine pm_irun 4 (σ' := (92, [some (.ref 49), some (.int a1), none, some (.int a3), some (.int x1), some (.int x5)], [.int a1, .ref 66, .int a1, .ref 66], M6)) rfl ?_
      refine pm_igd (σ1 := (93, [some (.ref 49), some (.int a1), none, some (.int a3), some (.int x1), some (.int x5)], [.int (M6.1 66 a1.toNatClampNeg), .int a1, .ref 66], M6)) rfl (fun _ => ?_)
      refine pm_irun 2 (σ' := (95, [some (.ref 49), some (.int a1), none, some (.int a3), some (.int x1), some (.int x5)], [.int ((M6.1 66 a1.toNatClampNeg) - (1 : Int32)), .int a1, .ref 66], M6)) rfl ?_
      refine pm_igd (σ1 := (96, [some (.ref 49), some (.int a1), none, some (.int a3), some (.int x1), some (.int x5)], [], (pm_sI M6 66 a1.toNatClampNeg (((M6.1 66 a1.toNatClampNeg) - (1 : Int32)))))) rfl (fun _ => ?_)
      refine pm_ilt (fun y => (96, [some (.ref 49), some (.int a1), none, some (.int a3), some (.int x1), some (.int x5)], [], y)) (fun M7 => ?_)
      refine pm_irun 5 (σ' := (106, [some (.ref 49), some (.int a1), none, some (.int a3), some (.int x1), some (.int x5)], [.int x1, .int (M7.1 49 29), .ref 70], M7)) rfl ?_
      refine pm_igd (σ1 := (107, [some (.ref 49), some (.int a1), none, some (.int a3), some (.int x1), some (.int x5)], [], (pm_sI M7 70 (M7.1 49 29).toNatClampNeg x1))) rfl (fun _ => ?_)
      refine pm_ilt (fun y => (107, [some (.ref 49), some (.int a1), none, some (.int a3), some (.int x1), some (.int x5)], [], y)) (fun M8 => ?_)
      refine pm_irun 5 (σ' := (116, [some (.ref 49), some (.int a1), none, some (.int a3), some (.int x1), some (.int x5)], [.int a1, .int (M8.1 49 29), .ref 71], M8)) rfl ?_
      refine pm_igd (σ1 := (117, [some (.ref 49), some (.int a1), none, some (.int a3), some (.int x1), some (.int x5)], [], (pm_sI M8 71 (M8.1 49 29).toNatClampNeg a1))) rfl (fun _ => ?_)
      refine pm_ilt (fun y => (117, [some (.ref 49), some (.int a1), none, some (.int a3), some (.int x1), some (.int x5)], [], y)) (fun M9 => ?_)
      refine pm_irun 5 (σ' := (124, [some (.ref 49), some (.int a1), none, some (.int a3), some (.int x1), some (.int x5)], [.int ((M9.1 49 29) + (1 : Int32)), .ref 49], M9)) rfl ?_
      refine pm_irun 1 (σ' := (127, [some (.ref 49), some (.int a1), none, some (.int a3), some (.int x1), some (.int x5)], [], (pm_sI M9 49 29 (((M9.1 49 29) + (1 : Int32)))))) rfl ?_
      refine pm_ilt (fun y => (127, [some (.ref 49), some (.int a1), none, some (.int a3), some (.int x1), some (.int x5)], [], y)) (fun M10 => ?_)
      refine pm_irun 5 (σ' := (135, [some (.ref 49), some (.int a1), none, some (.int a3), some (.int x1), some (.int x5)], [.int x1, .ref 49, .int (5 : Int32), .ref 69], M10)) rfl ?_
      refine pm_icI (as := [.ref 49, .int x1]) (rest := [.int (5 : Int32), .ref 69]) rfl rfl rfl rfl (Nat.le_of_ble_eq_true rfl) rfl (fun r h => pm_Ev_mono (Nat.le_of_ble_eq_true rfl) (sR_classOf_ok x1 M10 r h)) (fun v12 M11 => ?_)
      show pm_Im _ _ _ _ _ _ (138, [some (.ref 49), some (.int a1), none, some (.int a3), some (.int x1), some (.int x5)], [.int v12, .int (5 : Int32), .ref 69], M11)
      refine pm_irun 4 (σ' := (142, [some (.ref 49), some (.int a1), none, some (.int a3), some (.int x1), some (.int x5)], [.int (((5 : Int32) * v12) + a1), .ref 69, .int (((5 : Int32) * v12) + a1), .ref 69], M11)) rfl ?_
      refine pm_igd (σ1 := (143, [some (.ref 49), some (.int a1), none, some (.int a3), some (.int x1), some (.int x5)], [.int (M11.1 69 (((5 : Int32) * v12) + a1).toNatClampNeg), .int (((5 : Int32) * v12) + a1), .ref 69], M11)) rfl (fun _ => ?_)
      refine pm_irun 2 (σ' := (145, [some (.ref 49), some (.int a1), none, some (.int a3), some (.int x1), some (.int x5)], [.int ((M11.1 69 (((5 : Int32) * v12) + a1).toNatClampNeg) + (1 : Int32)), .int (((5 : Int32) * v12) + a1), .ref 69], M11)) rfl ?_
      refine pm_igd (σ1 := (146, [some (.ref 49), some (.int a1), none, some (.int a3), some (.int x1), some (.int x5)], [], (pm_sI M11 69 (((5 : Int32) * v12) + a1).toNatClampNeg (((M11.1 69 (((5 : Int32) * v12) + a1).toNatClampNeg) + (1 : Int32)))))) rfl (fun _ => ?_)
      refine pm_ilt (fun y => (146, [some (.ref 49), some (.int a1), none, some (.int a3), some (.int x1), some (.int x5)], [], y)) (fun M13 => ?_)
      exact pm_irV rfl rfl
    · exact pm_irV rfl rfl
  · refine pm_irun 8 (σ' := (41, [some (.ref 49), some (.int a1), none, some (.int a3), some (.int x1), some (.int x5)], [.int (1 : Int32), .int (((8 : Int32) * a1) + x5), .ref 67], M4)) rfl ?_
    refine pm_irun 8 (σ' := (53, [some (.ref 49), some (.int a1), none, some (.int a3), some (.int x1), some (.int x5)], [.int (((8 : Int32) * a1) + x5), .ref 67, .int ((((8 : Int32) * a1) + x5) - (1 : Int32)), .ref 67], M4)) rfl ?_
    refine pm_igd (σ1 := (54, [some (.ref 49), some (.int a1), none, some (.int a3), some (.int x1), some (.int x5)], [.int (M4.1 67 (((8 : Int32) * a1) + x5).toNatClampNeg), .int ((((8 : Int32) * a1) + x5) - (1 : Int32)), .ref 67], M4)) rfl (fun _ => ?_)
    refine pm_igd (σ1 := (55, [some (.ref 49), some (.int a1), none, some (.int a3), some (.int x1), some (.int x5)], [], (pm_sI M4 67 ((((8 : Int32) * a1) + x5) - (1 : Int32)).toNatClampNeg ((M4.1 67 (((8 : Int32) * a1) + x5).toNatClampNeg))))) rfl (fun _ => ?_)
    refine pm_ilt (fun y => (55, [some (.ref 49), some (.int a1), none, some (.int a3), some (.int x1), some (.int x5)], [], y)) (fun M14 => ?_)
    refine pm_irun 1 (σ' := (58, [some (.ref 49), some (.int a1), none, some (.int a3), some (.int x1), some (.int (x5 + (1 : Int32)))], [], M14)) rfl ?_
    refine pm_ilt (fun y => (58, [some (.ref 49), some (.int a1), none, some (.int a3), some (.int x1), some (.int y)], [], M14)) (fun x15 => ?_)
    refine pm_irun 1 (σ' := (18, [some (.ref 49), some (.int a1), none, some (.int a3), some (.int x1), some (.int x15)], [], M14)) rfl ?_
    exact hg3 _ _
def sR_serves (a1 : Int32) (M : pm_M) : Option (pm_M) := if pm_in a1 5 then (if ¬ (M.1 66 a1.toNatClampNeg) = 0 then (if pm_in a1 5 then (if ¬ (M.1 50 a1.toNatClampNeg) = (3 : Int32) then (if pm_in a1 5 then (pm_jn (fun (q3 : Int32) (M2 : pm_M) => pm_bd (sR_isOver a1 q3 M2) fun v5 M4 => pm_jn (fun (M7 : pm_M) => pm_bv (sR_goes a1 q3 v5 M7) fun M8 => some M8) fun (j6 : pm_M → Option (pm_M)) => if ¬ v5 = 0 then (j6 M4) else (if pm_in a1 5 then (if ¬ (M4.1 50 a1.toNatClampNeg) = (2 : Int32) then (some M4) else (j6 M4)) else none)) fun (j1 : Int32 → pm_M → Option (pm_M)) => if ¬ (M.1 50 a1.toNatClampNeg) = (1 : Int32) then (j1 (0 : Int32) M) else (if pm_in a1 5 then (j1 (((M.1 66 a1.toNatClampNeg) - (1 : Int32))) M) else none)) else none) else (pm_loop (fun _ _ => none) (fun (g9 : Int32 → pm_M → Option (pm_M)) x11 M10 => if pm_in a1 5 then (if (M10.1 66 a1.toNatClampNeg) ≤ x11 then (some M10) else (pm_bd (sR_isOver a1 x11 M10) fun v13 M12 => if v13 = 0 then (pm_lt ((x11 + (1 : Int32))) fun x14 => g9 x14 M12) else (pm_bv (sR_goes a1 x11 (1 : Int32) M12) fun M15 => g9 x11 M15))) else none) 1000000 (0 : Int32) M)) else none) else (some M)) else none
abbrev I_R_serves (sh : Option (pm_M)) (σ : pm_St) : Prop := pm_Im none (pm_Ev 2) pm_T184 none pm_rV sh σ
set_option maxHeartbeats 4000000 in
set_option maxRecDepth 100000 in
theorem sR_serves_ok (a1 : Int32) (M : pm_M) : ∀ r, sR_serves a1 M = some r → pm_Ev 3 184 [.ref 49, .int a1] M (pm_rV r).1 (pm_rV r).2 := by
  refine pm_meth (al := [some (.ref 49), some (.int a1), none, none]) rfl rfl rfl rfl rfl ?_
  unfold sR_serves
  show I_R_serves _ (0, [some (.ref 49), some (.int a1), none, none], [], M)
  refine pm_irun 3 (σ' := (5, [some (.ref 49), some (.int a1), none, none], [.int a1, .ref 66], M)) rfl ?_
  refine pm_igd (σ1 := (6, [some (.ref 49), some (.int a1), none, none], [.int (M.1 66 a1.toNatClampNeg)], M)) rfl (fun _ => ?_)
  refine pm_iite (σ1 := (10, [some (.ref 49), some (.int a1), none, none], [], M)) (σ2 := (9, [some (.ref 49), some (.int a1), none, none], [], M)) rfl (fun _ => ?_) (fun _ => ?_)
  · refine pm_irun 3 (σ' := (15, [some (.ref 49), some (.int a1), none, none], [.int a1, .ref 50], M)) rfl ?_
    refine pm_igd (σ1 := (16, [some (.ref 49), some (.int a1), none, none], [.int (M.1 50 a1.toNatClampNeg)], M)) rfl (fun _ => ?_)
    refine pm_irun 1 (σ' := (17, [some (.ref 49), some (.int a1), none, none], [.int (3 : Int32), .int (M.1 50 a1.toNatClampNeg)], M)) rfl ?_
    refine pm_iite (σ1 := (58, [some (.ref 49), some (.int a1), none, none], [], M)) (σ2 := (20, [some (.ref 49), some (.int a1), none, none], [], M)) rfl (fun _ => ?_) (fun _ => ?_)
    · refine pm_irun 3 (σ' := (63, [some (.ref 49), some (.int a1), none, none], [.int a1, .ref 50], M)) rfl ?_
      refine pm_igd (σ1 := (64, [some (.ref 49), some (.int a1), none, none], [.int (M.1 50 a1.toNatClampNeg)], M)) rfl (fun _ => ?_)
      refine pm_irun 1 (σ' := (65, [some (.ref 49), some (.int a1), none, none], [.int (1 : Int32), .int (M.1 50 a1.toNatClampNeg)], M)) rfl ?_
      refine pm_ijn (fun (g : Int32 → pm_M → Option (pm_M)) => ∀ (q3 : Int32) (M2 : pm_M), I_R_serves (g q3 M2) (80, [some (.ref 49), some (.int a1), none, none], [.int q3], M2)) (fun (q3 : Int32) (M2 : pm_M) => ?_) (fun j1 hj1 => ?_)
      · show I_R_serves _ (80, [some (.ref 49), some (.int a1), none, none], [.int q3], M2)
        refine pm_irun 1 (σ' := (81, [some (.ref 49), some (.int a1), some (.int q3), none], [], M2)) rfl ?_
        refine pm_irun 3 (σ' := (84, [some (.ref 49), some (.int a1), some (.int q3), none], [.int q3, .int a1, .ref 49], M2)) rfl ?_
        refine pm_icI (as := [.ref 49, .int a1, .int q3]) (rest := []) rfl rfl rfl rfl (Nat.le_of_ble_eq_true rfl) rfl (fun r h => pm_Ev_mono (Nat.le_of_ble_eq_true rfl) (sR_isOver_ok a1 q3 M2 r h)) (fun v5 M4 => ?_)
        show pm_Im _ _ _ _ _ _ (87, [some (.ref 49), some (.int a1), some (.int q3), none], [.int v5], M4)
        refine pm_irun 1 (σ' := (88, [some (.ref 49), some (.int a1), some (.int q3), some (.int v5)], [], M4)) rfl ?_
        refine pm_irun 1 (σ' := (89, [some (.ref 49), some (.int a1), some (.int q3), some (.int v5)], [.int v5], M4)) rfl ?_
        refine pm_ijn (fun (g : pm_M → Option (pm_M)) => ∀ (M7 : pm_M), I_R_serves (g M7) (102, [some (.ref 49), some (.int a1), some (.int q3), some (.int v5)], [], M7)) (fun (M7 : pm_M) => ?_) (fun j6 hj6 => ?_)
        · show I_R_serves _ (102, [some (.ref 49), some (.int a1), some (.int q3), some (.int v5)], [], M7)
          refine pm_irun 4 (σ' := (106, [some (.ref 49), some (.int a1), some (.int q3), some (.int v5)], [.int v5, .int q3, .int a1, .ref 49], M7)) rfl ?_
          refine pm_icV (as := [.ref 49, .int a1, .int q3, .int v5]) (rest := []) rfl rfl rfl rfl (Nat.le_of_ble_eq_true rfl) rfl (fun r h => pm_Ev_mono (Nat.le_of_ble_eq_true rfl) (sR_goes_ok a1 q3 v5 M7 r h)) (fun M8 => ?_)
          show pm_Im _ _ _ _ _ _ (109, [some (.ref 49), some (.int a1), some (.int q3), some (.int v5)], [], M8)
          exact pm_irV rfl rfl
        refine pm_iite (σ1 := (102, [some (.ref 49), some (.int a1), some (.int q3), some (.int v5)], [], M4)) (σ2 := (92, [some (.ref 49), some (.int a1), some (.int q3), some (.int v5)], [], M4)) rfl (fun _ => ?_) (fun _ => ?_)
        · exact hj6 _
        · refine pm_irun 3 (σ' := (97, [some (.ref 49), some (.int a1), some (.int q3), some (.int v5)], [.int a1, .ref 50], M4)) rfl ?_
          refine pm_igd (σ1 := (98, [some (.ref 49), some (.int a1), some (.int q3), some (.int v5)], [.int (M4.1 50 a1.toNatClampNeg)], M4)) rfl (fun _ => ?_)
          refine pm_irun 1 (σ' := (99, [some (.ref 49), some (.int a1), some (.int q3), some (.int v5)], [.int (2 : Int32), .int (M4.1 50 a1.toNatClampNeg)], M4)) rfl ?_
          refine pm_iite (σ1 := (109, [some (.ref 49), some (.int a1), some (.int q3), some (.int v5)], [], M4)) (σ2 := (102, [some (.ref 49), some (.int a1), some (.int q3), some (.int v5)], [], M4)) rfl (fun _ => ?_) (fun _ => ?_)
          · exact pm_irV rfl rfl
          · exact hj6 _
      refine pm_iite (σ1 := (79, [some (.ref 49), some (.int a1), none, none], [], M)) (σ2 := (68, [some (.ref 49), some (.int a1), none, none], [], M)) rfl (fun _ => ?_) (fun _ => ?_)
      · refine pm_irun 1 (σ' := (80, [some (.ref 49), some (.int a1), none, none], [.int (0 : Int32)], M)) rfl ?_
        exact hj1 _ _
      · refine pm_irun 3 (σ' := (73, [some (.ref 49), some (.int a1), none, none], [.int a1, .ref 66], M)) rfl ?_
        refine pm_igd (σ1 := (74, [some (.ref 49), some (.int a1), none, none], [.int (M.1 66 a1.toNatClampNeg)], M)) rfl (fun _ => ?_)
        refine pm_irun 3 (σ' := (80, [some (.ref 49), some (.int a1), none, none], [.int ((M.1 66 a1.toNatClampNeg) - (1 : Int32))], M)) rfl ?_
        exact hj1 _ _
    · refine pm_irun 2 (σ' := (22, [some (.ref 49), some (.int a1), some (.int (0 : Int32)), none], [], M)) rfl ?_
      refine pm_iloop (fun (g : Int32 → pm_M → Option (pm_M)) => ∀ (x11 : Int32) (M10 : pm_M), I_R_serves (g x11 M10) (22, [some (.ref 49), some (.int a1), some (.int x11), none], [], M10)) (fun _ _ => pm_inone) (fun g9 hg9 x11 M10 => ?_) 1000000 _ _
      show I_R_serves _ (22, [some (.ref 49), some (.int a1), some (.int x11), none], [], M10)
      refine pm_irun 4 (σ' := (28, [some (.ref 49), some (.int a1), some (.int x11), none], [.int a1, .ref 66, .int x11], M10)) rfl ?_
      refine pm_igd (σ1 := (29, [some (.ref 49), some (.int a1), some (.int x11), none], [.int (M10.1 66 a1.toNatClampNeg), .int x11], M10)) rfl (fun _ => ?_)
      refine pm_iite (σ1 := (57, [some (.ref 49), some (.int a1), some (.int x11), none], [], M10)) (σ2 := (32, [some (.ref 49), some (.int a1), some (.int x11), none], [], M10)) rfl (fun _ => ?_) (fun _ => ?_)
      · exact pm_irV rfl rfl
      · refine pm_irun 3 (σ' := (35, [some (.ref 49), some (.int a1), some (.int x11), none], [.int x11, .int a1, .ref 49], M10)) rfl ?_
        refine pm_icI (as := [.ref 49, .int a1, .int x11]) (rest := []) rfl rfl rfl rfl (Nat.le_of_ble_eq_true rfl) rfl (fun r h => pm_Ev_mono (Nat.le_of_ble_eq_true rfl) (sR_isOver_ok a1 x11 M10 r h)) (fun v13 M12 => ?_)
        show pm_Im _ _ _ _ _ _ (38, [some (.ref 49), some (.int a1), some (.int x11), none], [.int v13], M12)
        refine pm_iite (σ1 := (51, [some (.ref 49), some (.int a1), some (.int x11), none], [], M12)) (σ2 := (41, [some (.ref 49), some (.int a1), some (.int x11), none], [], M12)) rfl (fun _ => ?_) (fun _ => ?_)
        · refine pm_irun 1 (σ' := (54, [some (.ref 49), some (.int a1), some (.int (x11 + (1 : Int32))), none], [], M12)) rfl ?_
          refine pm_ilt (fun y => (54, [some (.ref 49), some (.int a1), some (.int y), none], [], M12)) (fun x14 => ?_)
          refine pm_irun 1 (σ' := (22, [some (.ref 49), some (.int a1), some (.int x14), none], [], M12)) rfl ?_
          exact hg9 _ _
        · refine pm_irun 4 (σ' := (45, [some (.ref 49), some (.int a1), some (.int x11), none], [.int (1 : Int32), .int x11, .int a1, .ref 49], M12)) rfl ?_
          refine pm_icV (as := [.ref 49, .int a1, .int x11, .int (1 : Int32)]) (rest := []) rfl rfl rfl rfl (Nat.le_of_ble_eq_true rfl) rfl (fun r h => pm_Ev_mono (Nat.le_of_ble_eq_true rfl) (sR_goes_ok a1 x11 (1 : Int32) M12 r h)) (fun M15 => ?_)
          show pm_Im _ _ _ _ _ _ (48, [some (.ref 49), some (.int a1), some (.int x11), none], [], M15)
          refine pm_irun 1 (σ' := (22, [some (.ref 49), some (.int a1), some (.int x11), none], [], M15)) rfl ?_
          exact hg9 _ _
  · exact pm_irV rfl rfl
def sR_turnOne  (M : pm_M) : Option (Int32 × pm_M) := pm_lt (pm_sI M 49 29 (0 : Int32)) fun M1 => pm_loop (fun _ _ => none) (fun (g2 : Int32 → pm_M → Option (Int32 × pm_M)) x4 M3 => if (M3.1 49 1) ≤ x4 then (pm_loop (fun _ _ => none) (fun (g5 : Int32 → pm_M → Option (Int32 × pm_M)) x7 M6 => if (M6.1 49 29) ≤ x7 then (pm_lt (pm_sI M6 49 23 (((M6.1 49 23) + (1 : Int32)))) fun M8 => some ((M8.1 49 29), M8)) else (if pm_in x7 8 then (if pm_in x7 8 then (pm_bd (sR_classOf (M6.1 70 x7.toNatClampNeg) M6) fun v10 M9 => if pm_in x7 8 then (pm_bd (sR_leads v10 (M9.1 71 x7.toNatClampNeg) M9) fun v12 M11 => pm_bv (sR_comes (M6.1 70 x7.toNatClampNeg) v12 M11) fun M13 => pm_lt ((x7 + (1 : Int32))) fun x14 => g5 x14 M13) else none) else none) else none)) 1000000 (0 : Int32) M3) else (pm_bv (sR_serves x4 M3) fun M15 => pm_lt ((x4 + (1 : Int32))) fun x16 => g2 x16 M15)) 1000000 (0 : Int32) M1
abbrev I_R_turnOne (sh : Option (Int32 × pm_M)) (σ : pm_St) : Prop := pm_Im none (pm_Ev 3) pm_T187 (some .int) pm_rI sh σ
set_option maxHeartbeats 4000000 in
set_option maxRecDepth 100000 in
theorem sR_turnOne_ok  (M : pm_M) : ∀ r, sR_turnOne  M = some r → pm_Ev 4 187 [.ref 49] M (pm_rI r).1 (pm_rI r).2 := by
  refine pm_meth (al := [some (.ref 49), none]) rfl rfl rfl rfl rfl ?_
  unfold sR_turnOne
  show I_R_turnOne _ (0, [some (.ref 49), none], [], M)
  refine pm_irun 2 (σ' := (2, [some (.ref 49), none], [.int (0 : Int32), .ref 49], M)) rfl ?_
  refine pm_irun 1 (σ' := (5, [some (.ref 49), none], [], (pm_sI M 49 29 (0 : Int32)))) rfl ?_
  refine pm_ilt (fun y => (5, [some (.ref 49), none], [], y)) (fun M1 => ?_)
  refine pm_irun 2 (σ' := (7, [some (.ref 49), some (.int (0 : Int32))], [], M1)) rfl ?_
  refine pm_iloop (fun (g : Int32 → pm_M → Option (Int32 × pm_M)) => ∀ (x4 : Int32) (M3 : pm_M), I_R_turnOne (g x4 M3) (7, [some (.ref 49), some (.int x4)], [], M3)) (fun _ _ => pm_inone) (fun g2 hg2 x4 M3 => ?_) 1000000 _ _
  show I_R_turnOne _ (7, [some (.ref 49), some (.int x4)], [], M3)
  refine pm_irun 3 (σ' := (12, [some (.ref 49), some (.int x4)], [.int (M3.1 49 1), .int x4], M3)) rfl ?_
  refine pm_iite (σ1 := (26, [some (.ref 49), some (.int x4)], [], M3)) (σ2 := (15, [some (.ref 49), some (.int x4)], [], M3)) rfl (fun _ => ?_) (fun _ => ?_)
  · refine pm_irun 2 (σ' := (28, [some (.ref 49), some (.int (0 : Int32))], [], M3)) rfl ?_
    refine pm_iloop (fun (g : Int32 → pm_M → Option (Int32 × pm_M)) => ∀ (x7 : Int32) (M6 : pm_M), I_R_turnOne (g x7 M6) (28, [some (.ref 49), some (.int x7)], [], M6)) (fun _ _ => pm_inone) (fun g5 hg5 x7 M6 => ?_) 1000000 _ _
    show I_R_turnOne _ (28, [some (.ref 49), some (.int x7)], [], M6)
    refine pm_irun 3 (σ' := (33, [some (.ref 49), some (.int x7)], [.int (M6.1 49 29), .int x7], M6)) rfl ?_
    refine pm_iite (σ1 := (72, [some (.ref 49), some (.int x7)], [], M6)) (σ2 := (36, [some (.ref 49), some (.int x7)], [], M6)) rfl (fun _ => ?_) (fun _ => ?_)
    · refine pm_irun 5 (σ' := (79, [some (.ref 49), some (.int x7)], [.int ((M6.1 49 23) + (1 : Int32)), .ref 49], M6)) rfl ?_
      refine pm_irun 1 (σ' := (82, [some (.ref 49), some (.int x7)], [], (pm_sI M6 49 23 (((M6.1 49 23) + (1 : Int32)))))) rfl ?_
      refine pm_ilt (fun y => (82, [some (.ref 49), some (.int x7)], [], y)) (fun M8 => ?_)
      refine pm_irun 2 (σ' := (86, [some (.ref 49), some (.int x7)], [.int (M8.1 49 29)], M8)) rfl ?_
      exact pm_irI rfl rfl
    · refine pm_irun 4 (σ' := (42, [some (.ref 49), some (.int x7)], [.int x7, .ref 70, .ref 49], M6)) rfl ?_
      refine pm_igd (σ1 := (43, [some (.ref 49), some (.int x7)], [.int (M6.1 70 x7.toNatClampNeg), .ref 49], M6)) rfl (fun _ => ?_)
      refine pm_irun 5 (σ' := (50, [some (.ref 49), some (.int x7)], [.int x7, .ref 70, .ref 49, .ref 49, .int (M6.1 70 x7.toNatClampNeg), .ref 49], M6)) rfl ?_
      refine pm_igd (σ1 := (51, [some (.ref 49), some (.int x7)], [.int (M6.1 70 x7.toNatClampNeg), .ref 49, .ref 49, .int (M6.1 70 x7.toNatClampNeg), .ref 49], M6)) rfl (fun _ => ?_)
      refine pm_icI (as := [.ref 49, .int (M6.1 70 x7.toNatClampNeg)]) (rest := [.ref 49, .int (M6.1 70 x7.toNatClampNeg), .ref 49]) rfl rfl rfl rfl (Nat.le_of_ble_eq_true rfl) rfl (fun r h => pm_Ev_mono (Nat.le_of_ble_eq_true rfl) (sR_classOf_ok (M6.1 70 x7.toNatClampNeg) M6 r h)) (fun v10 M9 => ?_)
      show pm_Im _ _ _ _ _ _ (54, [some (.ref 49), some (.int x7)], [.int v10, .ref 49, .int (M6.1 70 x7.toNatClampNeg), .ref 49], M9)
      refine pm_irun 3 (σ' := (59, [some (.ref 49), some (.int x7)], [.int x7, .ref 71, .int v10, .ref 49, .int (M6.1 70 x7.toNatClampNeg), .ref 49], M9)) rfl ?_
      refine pm_igd (σ1 := (60, [some (.ref 49), some (.int x7)], [.int (M9.1 71 x7.toNatClampNeg), .int v10, .ref 49, .int (M6.1 70 x7.toNatClampNeg), .ref 49], M9)) rfl (fun _ => ?_)
      refine pm_icI (as := [.ref 49, .int v10, .int (M9.1 71 x7.toNatClampNeg)]) (rest := [.int (M6.1 70 x7.toNatClampNeg), .ref 49]) rfl rfl rfl rfl (Nat.le_of_ble_eq_true rfl) rfl (fun r h => pm_Ev_mono (Nat.le_of_ble_eq_true rfl) (sR_leads_ok v10 (M9.1 71 x7.toNatClampNeg) M9 r h)) (fun v12 M11 => ?_)
      show pm_Im _ _ _ _ _ _ (63, [some (.ref 49), some (.int x7)], [.int v12, .int (M6.1 70 x7.toNatClampNeg), .ref 49], M11)
      refine pm_icV (as := [.ref 49, .int (M6.1 70 x7.toNatClampNeg), .int v12]) (rest := []) rfl rfl rfl rfl (Nat.le_of_ble_eq_true rfl) rfl (fun r h => pm_Ev_mono (Nat.le_of_ble_eq_true rfl) (sR_comes_ok (M6.1 70 x7.toNatClampNeg) v12 M11 r h)) (fun M13 => ?_)
      show pm_Im _ _ _ _ _ _ (66, [some (.ref 49), some (.int x7)], [], M13)
      refine pm_irun 1 (σ' := (69, [some (.ref 49), some (.int (x7 + (1 : Int32)))], [], M13)) rfl ?_
      refine pm_ilt (fun y => (69, [some (.ref 49), some (.int y)], [], M13)) (fun x14 => ?_)
      refine pm_irun 1 (σ' := (28, [some (.ref 49), some (.int x14)], [], M13)) rfl ?_
      exact hg5 _ _
  · refine pm_irun 2 (σ' := (17, [some (.ref 49), some (.int x4)], [.int x4, .ref 49], M3)) rfl ?_
    refine pm_icV (as := [.ref 49, .int x4]) (rest := []) rfl rfl rfl rfl (Nat.le_of_ble_eq_true rfl) rfl (fun r h => pm_Ev_mono (Nat.le_of_ble_eq_true rfl) (sR_serves_ok x4 M3 r h)) (fun M15 => ?_)
    show pm_Im _ _ _ _ _ _ (20, [some (.ref 49), some (.int x4)], [], M15)
    refine pm_irun 1 (σ' := (23, [some (.ref 49), some (.int (x4 + (1 : Int32)))], [], M15)) rfl ?_
    refine pm_ilt (fun y => (23, [some (.ref 49), some (.int y)], [], M15)) (fun x16 => ?_)
    refine pm_irun 1 (σ' := (7, [some (.ref 49), some (.int x16)], [], M15)) rfl ?_
    exact hg2 _ _
def sR_turn (a1 : Int32) (M : pm_M) : Option (Int32 × pm_M) := pm_bd (sR_in (a1.toInt64) (1 : Int64) (60 : Int64) M) fun v2 M1 => if ¬ v2 = 0 then (if ¬ (M1.1 49 22) = 0 then (pm_loop (fun _ _ _ => none) (fun (g3 : Int32 → Int32 → pm_M → Option (Int32 × pm_M)) x5 x6 M4 => if a1 ≤ x6 then (some (x5, M4)) else (pm_bd (sR_turnOne M4) fun v8 M7 => pm_lt ((x5 + v8)) fun x9 => pm_lt ((x6 + (1 : Int32))) fun x10 => g3 x9 x10 M7)) 1000000 (0 : Int32) (0 : Int32) M1) else (some ((-3 : Int32), M1))) else (some ((-2 : Int32), M1))
abbrev I_R_turn (sh : Option (Int32 × pm_M)) (σ : pm_St) : Prop := pm_Im none (pm_Ev 4) pm_T188 (some .int) pm_rI sh σ
set_option maxHeartbeats 4000000 in
set_option maxRecDepth 100000 in
theorem sR_turn_ok (a1 : Int32) (M : pm_M) : ∀ r, sR_turn a1 M = some r → pm_Ev 5 188 [.ref 49, .int a1] M (pm_rI r).1 (pm_rI r).2 := by
  refine pm_meth (al := [some (.ref 49), some (.int a1), none, none]) rfl rfl rfl rfl rfl ?_
  unfold sR_turn
  show I_R_turn _ (0, [some (.ref 49), some (.int a1), none, none], [], M)
  refine pm_irun 4 (σ' := (6, [some (.ref 49), some (.int a1), none, none], [.long (60 : Int64), .long (1 : Int64), .long a1.toInt64], M)) rfl ?_
  refine pm_icI (as := [.long a1.toInt64, .long (1 : Int64), .long (60 : Int64)]) (rest := []) rfl rfl rfl rfl (Nat.le_of_ble_eq_true rfl) rfl (fun r h => pm_Ev_mono (Nat.le_of_ble_eq_true rfl) (sR_in_ok (a1.toInt64) (1 : Int64) (60 : Int64) M r h)) (fun v2 M1 => ?_)
  show pm_Im _ _ _ _ _ _ (9, [some (.ref 49), some (.int a1), none, none], [.int v2], M1)
  refine pm_iite (σ1 := (15, [some (.ref 49), some (.int a1), none, none], [], M1)) (σ2 := (12, [some (.ref 49), some (.int a1), none, none], [], M1)) rfl (fun _ => ?_) (fun _ => ?_)
  · refine pm_irun 2 (σ' := (19, [some (.ref 49), some (.int a1), none, none], [.int (M1.1 49 22)], M1)) rfl ?_
    refine pm_iite (σ1 := (25, [some (.ref 49), some (.int a1), none, none], [], M1)) (σ2 := (22, [some (.ref 49), some (.int a1), none, none], [], M1)) rfl (fun _ => ?_) (fun _ => ?_)
    · refine pm_irun 2 (σ' := (27, [some (.ref 49), some (.int a1), some (.int (0 : Int32)), none], [], M1)) rfl ?_
      refine pm_irun 2 (σ' := (29, [some (.ref 49), some (.int a1), some (.int (0 : Int32)), some (.int (0 : Int32))], [], M1)) rfl ?_
      refine pm_iloop (fun (g : Int32 → Int32 → pm_M → Option (Int32 × pm_M)) => ∀ (x5 : Int32) (x6 : Int32) (M4 : pm_M), I_R_turn (g x5 x6 M4) (29, [some (.ref 49), some (.int a1), some (.int x5), some (.int x6)], [], M4)) (fun _ _ _ => pm_inone) (fun g3 hg3 x5 x6 M4 => ?_) 1000000 _ _ _
      show I_R_turn _ (29, [some (.ref 49), some (.int a1), some (.int x5), some (.int x6)], [], M4)
      refine pm_irun 2 (σ' := (31, [some (.ref 49), some (.int a1), some (.int x5), some (.int x6)], [.int a1, .int x6], M4)) rfl ?_
      refine pm_iite (σ1 := (47, [some (.ref 49), some (.int a1), some (.int x5), some (.int x6)], [], M4)) (σ2 := (34, [some (.ref 49), some (.int a1), some (.int x5), some (.int x6)], [], M4)) rfl (fun _ => ?_) (fun _ => ?_)
      · refine pm_irun 1 (σ' := (48, [some (.ref 49), some (.int a1), some (.int x5), some (.int x6)], [.int x5], M4)) rfl ?_
        exact pm_irI rfl rfl
      · refine pm_irun 2 (σ' := (36, [some (.ref 49), some (.int a1), some (.int x5), some (.int x6)], [.ref 49, .int x5], M4)) rfl ?_
        refine pm_icI (as := [.ref 49]) (rest := [.int x5]) rfl rfl rfl rfl (Nat.le_of_ble_eq_true rfl) rfl (fun r h => pm_Ev_mono (Nat.le_of_ble_eq_true rfl) (sR_turnOne_ok M4 r h)) (fun v8 M7 => ?_)
        show pm_Im _ _ _ _ _ _ (39, [some (.ref 49), some (.int a1), some (.int x5), some (.int x6)], [.int v8, .int x5], M7)
        refine pm_irun 2 (σ' := (41, [some (.ref 49), some (.int a1), some (.int (x5 + v8)), some (.int x6)], [], M7)) rfl ?_
        refine pm_ilt (fun y => (41, [some (.ref 49), some (.int a1), some (.int y), some (.int x6)], [], M7)) (fun x9 => ?_)
        refine pm_irun 1 (σ' := (44, [some (.ref 49), some (.int a1), some (.int x9), some (.int (x6 + (1 : Int32)))], [], M7)) rfl ?_
        refine pm_ilt (fun y => (44, [some (.ref 49), some (.int a1), some (.int x9), some (.int y)], [], M7)) (fun x10 => ?_)
        refine pm_irun 1 (σ' := (29, [some (.ref 49), some (.int a1), some (.int x9), some (.int x10)], [], M7)) rfl ?_
        exact hg3 _ _ _
    · refine pm_irun 1 (σ' := (24, [some (.ref 49), some (.int a1), none, none], [.int (-3 : Int32)], M1)) rfl ?_
      exact pm_irI rfl rfl
  · refine pm_irun 1 (σ' := (14, [some (.ref 49), some (.int a1), none, none], [.int (-2 : Int32)], M1)) rfl ?_
    exact pm_irI rfl rfl
def sTruth_aheadOf (a1 : Int32) (M : pm_M) : Option (Int32 × pm_M) := if pm_in a1 8 then (pm_lt ((M.1 33 a1.toNatClampNeg)) fun x1 => pm_loop (fun _ _ => none) (fun (g2 : Int32 → pm_M → Option (Int32 × pm_M)) x4 M3 => if pm_in x1 5 then (if (M3.1 32 x1.toNatClampNeg) ≤ x4 then (some ((0 : Int32), M3)) else (if pm_in ((x1 * (8 : Int32)) + x4) 40 then (if ¬ (M3.1 31 ((x1 * (8 : Int32)) + x4).toNatClampNeg) = a1 then (pm_lt ((x4 + (1 : Int32))) fun x5 => g2 x5 M3) else (some (x4, M3))) else none)) else none) 1000000 (0 : Int32) M) else none
abbrev I_Truth_aheadOf (sh : Option (Int32 × pm_M)) (σ : pm_St) : Prop := pm_Im none (pm_Ev 0) pm_T48 (some .int) pm_rI sh σ
set_option maxHeartbeats 4000000 in
set_option maxRecDepth 100000 in
theorem sTruth_aheadOf_ok (a1 : Int32) (M : pm_M) : ∀ r, sTruth_aheadOf a1 M = some r → pm_Ev 1 48 [.ref 30, .int a1] M (pm_rI r).1 (pm_rI r).2 := by
  refine pm_meth (al := [some (.ref 30), some (.int a1), none, none]) rfl rfl rfl rfl rfl ?_
  unfold sTruth_aheadOf
  show I_Truth_aheadOf _ (0, [some (.ref 30), some (.int a1), none, none], [], M)
  refine pm_irun 3 (σ' := (5, [some (.ref 30), some (.int a1), none, none], [.int a1, .ref 33], M)) rfl ?_
  refine pm_igd (σ1 := (6, [some (.ref 30), some (.int a1), none, none], [.int (M.1 33 a1.toNatClampNeg)], M)) rfl (fun _ => ?_)
  refine pm_irun 1 (σ' := (7, [some (.ref 30), some (.int a1), some (.int (M.1 33 a1.toNatClampNeg)), none], [], M)) rfl ?_
  refine pm_ilt (fun y => (7, [some (.ref 30), some (.int a1), some (.int y), none], [], M)) (fun x1 => ?_)
  refine pm_irun 2 (σ' := (9, [some (.ref 30), some (.int a1), some (.int x1), some (.int (0 : Int32))], [], M)) rfl ?_
  refine pm_iloop (fun (g : Int32 → pm_M → Option (Int32 × pm_M)) => ∀ (x4 : Int32) (M3 : pm_M), I_Truth_aheadOf (g x4 M3) (9, [some (.ref 30), some (.int a1), some (.int x1), some (.int x4)], [], M3)) (fun _ _ => pm_inone) (fun g2 hg2 x4 M3 => ?_) 1000000 _ _
  show I_Truth_aheadOf _ (9, [some (.ref 30), some (.int a1), some (.int x1), some (.int x4)], [], M3)
  refine pm_irun 4 (σ' := (15, [some (.ref 30), some (.int a1), some (.int x1), some (.int x4)], [.int x1, .ref 32, .int x4], M3)) rfl ?_
  refine pm_igd (σ1 := (16, [some (.ref 30), some (.int a1), some (.int x1), some (.int x4)], [.int (M3.1 32 x1.toNatClampNeg), .int x4], M3)) rfl (fun _ => ?_)
  refine pm_iite (σ1 := (42, [some (.ref 30), some (.int a1), some (.int x1), some (.int x4)], [], M3)) (σ2 := (19, [some (.ref 30), some (.int a1), some (.int x1), some (.int x4)], [], M3)) rfl (fun _ => ?_) (fun _ => ?_)
  · refine pm_irun 1 (σ' := (43, [some (.ref 30), some (.int a1), some (.int x1), some (.int x4)], [.int (0 : Int32)], M3)) rfl ?_
    exact pm_irI rfl rfl
  · refine pm_irun 7 (σ' := (29, [some (.ref 30), some (.int a1), some (.int x1), some (.int x4)], [.int ((x1 * (8 : Int32)) + x4), .ref 31], M3)) rfl ?_
    refine pm_igd (σ1 := (30, [some (.ref 30), some (.int a1), some (.int x1), some (.int x4)], [.int (M3.1 31 ((x1 * (8 : Int32)) + x4).toNatClampNeg)], M3)) rfl (fun _ => ?_)
    refine pm_irun 1 (σ' := (31, [some (.ref 30), some (.int a1), some (.int x1), some (.int x4)], [.int a1, .int (M3.1 31 ((x1 * (8 : Int32)) + x4).toNatClampNeg)], M3)) rfl ?_
    refine pm_iite (σ1 := (36, [some (.ref 30), some (.int a1), some (.int x1), some (.int x4)], [], M3)) (σ2 := (34, [some (.ref 30), some (.int a1), some (.int x1), some (.int x4)], [], M3)) rfl (fun _ => ?_) (fun _ => ?_)
    · refine pm_irun 1 (σ' := (39, [some (.ref 30), some (.int a1), some (.int x1), some (.int (x4 + (1 : Int32)))], [], M3)) rfl ?_
      refine pm_ilt (fun y => (39, [some (.ref 30), some (.int a1), some (.int x1), some (.int y)], [], M3)) (fun x5 => ?_)
      refine pm_irun 1 (σ' := (9, [some (.ref 30), some (.int a1), some (.int x1), some (.int x5)], [], M3)) rfl ?_
      exact hg2 _ _
    · refine pm_irun 1 (σ' := (35, [some (.ref 30), some (.int a1), some (.int x1), some (.int x4)], [.int x4], M3)) rfl ?_
      exact pm_irI rfl rfl
def sC_where (a1 : Int32) (a2 : Int32) (M : pm_M) : Option (Int32 × pm_M) := if a2 < 0 then (some ((-2 : Int32), M)) else (if a2 ≤ (2 : Int32) then (if a1 < 0 then (some ((-12 : Int32), M)) else (if a1 < (M.1 30 1) then (if ¬ a2 = 0 then (if ¬ a2 = (1 : Int32) then (pm_bd (sTruth_aheadOf a1 M) fun v2 M1 => some (v2, M1)) else (if pm_in a1 8 then (some ((M.1 34 a1.toNatClampNeg), M)) else none)) else (if pm_in a1 8 then (some ((M.1 33 a1.toNatClampNeg), M)) else none)) else (some ((-12 : Int32), M)))) else (some ((-2 : Int32), M)))
abbrev I_C_where (sh : Option (Int32 × pm_M)) (σ : pm_St) : Prop := pm_Im none (pm_Ev 1) pm_T82 (some .int) pm_rI sh σ
set_option maxHeartbeats 4000000 in
set_option maxRecDepth 100000 in
theorem sC_where_ok (a1 : Int32) (a2 : Int32) (M : pm_M) : ∀ r, sC_where a1 a2 M = some r → pm_Ev 2 82 [.ref 0, .int a1, .int a2] M (pm_rI r).1 (pm_rI r).2 := by
  refine pm_meth (al := [some (.ref 0), some (.int a1), some (.int a2)]) rfl rfl rfl rfl rfl ?_
  unfold sC_where
  show I_C_where _ (0, [some (.ref 0), some (.int a1), some (.int a2)], [], M)
  refine pm_irun 1 (σ' := (1, [some (.ref 0), some (.int a1), some (.int a2)], [.int a2], M)) rfl ?_
  refine pm_iite (σ1 := (9, [some (.ref 0), some (.int a1), some (.int a2)], [], M)) (σ2 := (4, [some (.ref 0), some (.int a1), some (.int a2)], [], M)) rfl (fun _ => ?_) (fun _ => ?_)
  · refine pm_irun 1 (σ' := (11, [some (.ref 0), some (.int a1), some (.int a2)], [.int (-2 : Int32)], M)) rfl ?_
    exact pm_irI rfl rfl
  · refine pm_irun 2 (σ' := (6, [some (.ref 0), some (.int a1), some (.int a2)], [.int (2 : Int32), .int a2], M)) rfl ?_
    refine pm_iite (σ1 := (12, [some (.ref 0), some (.int a1), some (.int a2)], [], M)) (σ2 := (9, [some (.ref 0), some (.int a1), some (.int a2)], [], M)) rfl (fun _ => ?_) (fun _ => ?_)
    · refine pm_irun 1 (σ' := (13, [some (.ref 0), some (.int a1), some (.int a2)], [.int a1], M)) rfl ?_
      refine pm_iite (σ1 := (27, [some (.ref 0), some (.int a1), some (.int a2)], [], M)) (σ2 := (16, [some (.ref 0), some (.int a1), some (.int a2)], [], M)) rfl (fun _ => ?_) (fun _ => ?_)
      · refine pm_irun 1 (σ' := (29, [some (.ref 0), some (.int a1), some (.int a2)], [.int (-12 : Int32)], M)) rfl ?_
        exact pm_irI rfl rfl
      · refine pm_irun 4 (σ' := (24, [some (.ref 0), some (.int a1), some (.int a2)], [.int (M.1 30 1), .int a1], M)) rfl ?_
        refine pm_iite (σ1 := (30, [some (.ref 0), some (.int a1), some (.int a2)], [], M)) (σ2 := (27, [some (.ref 0), some (.int a1), some (.int a2)], [], M)) rfl (fun _ => ?_) (fun _ => ?_)
        · refine pm_irun 1 (σ' := (31, [some (.ref 0), some (.int a1), some (.int a2)], [.int a2], M)) rfl ?_
          refine pm_iite (σ1 := (44, [some (.ref 0), some (.int a1), some (.int a2)], [], M)) (σ2 := (34, [some (.ref 0), some (.int a1), some (.int a2)], [], M)) rfl (fun _ => ?_) (fun _ => ?_)
          · refine pm_irun 2 (σ' := (46, [some (.ref 0), some (.int a1), some (.int a2)], [.int (1 : Int32), .int a2], M)) rfl ?_
            refine pm_iite (σ1 := (59, [some (.ref 0), some (.int a1), some (.int a2)], [], M)) (σ2 := (49, [some (.ref 0), some (.int a1), some (.int a2)], [], M)) rfl (fun _ => ?_) (fun _ => ?_)
            · refine pm_irun 3 (σ' := (64, [some (.ref 0), some (.int a1), some (.int a2)], [.int a1, .ref 30], M)) rfl ?_
              refine pm_icI (as := [.ref 30, .int a1]) (rest := []) rfl rfl rfl rfl (Nat.le_of_ble_eq_true rfl) rfl (fun r h => pm_Ev_mono (Nat.le_of_ble_eq_true rfl) (sTruth_aheadOf_ok a1 M r h)) (fun v2 M1 => ?_)
              show pm_Im _ _ _ _ _ _ (67, [some (.ref 0), some (.int a1), some (.int a2)], [.int v2], M1)
              exact pm_irI rfl rfl
            · refine pm_irun 4 (σ' := (57, [some (.ref 0), some (.int a1), some (.int a2)], [.int a1, .ref 34], M)) rfl ?_
              refine pm_igd (σ1 := (58, [some (.ref 0), some (.int a1), some (.int a2)], [.int (M.1 34 a1.toNatClampNeg)], M)) rfl (fun _ => ?_)
              exact pm_irI rfl rfl
          · refine pm_irun 4 (σ' := (42, [some (.ref 0), some (.int a1), some (.int a2)], [.int a1, .ref 33], M)) rfl ?_
            refine pm_igd (σ1 := (43, [some (.ref 0), some (.int a1), some (.int a2)], [.int (M.1 33 a1.toNatClampNeg)], M)) rfl (fun _ => ?_)
            exact pm_irI rfl rfl
        · refine pm_irun 1 (σ' := (29, [some (.ref 0), some (.int a1), some (.int a2)], [.int (-12 : Int32)], M)) rfl ?_
          exact pm_irI rfl rfl
    · refine pm_irun 1 (σ' := (11, [some (.ref 0), some (.int a1), some (.int a2)], [.int (-2 : Int32)], M)) rfl ?_
      exact pm_irI rfl rfl
def sR_inTruth  (M : pm_M) : Option (Int32 × pm_M) := if (M.1 49 22) = 0 then (some ((0 : Int32), M)) else (some (((M.1 53 0) + (M.1 53 1)), M))
abbrev I_R_inTruth (sh : Option (Int32 × pm_M)) (σ : pm_St) : Prop := pm_Im none (pm_Ev 0) pm_T178 (some .int) pm_rI sh σ
set_option maxHeartbeats 4000000 in
set_option maxRecDepth 100000 in
theorem sR_inTruth_ok  (M : pm_M) : ∀ r, sR_inTruth  M = some r → pm_Ev 1 178 [.ref 49] M (pm_rI r).1 (pm_rI r).2 := by
  refine pm_meth (al := [some (.ref 49)]) rfl rfl rfl rfl rfl ?_
  unfold sR_inTruth
  show I_R_inTruth _ (0, [some (.ref 49)], [], M)
  refine pm_irun 2 (σ' := (4, [some (.ref 49)], [.int (M.1 49 22)], M)) rfl ?_
  refine pm_iite (σ1 := (23, [some (.ref 49)], [], M)) (σ2 := (7, [some (.ref 49)], [], M)) rfl (fun _ => ?_) (fun _ => ?_)
  · refine pm_irun 1 (σ' := (24, [some (.ref 49)], [.int (0 : Int32)], M)) rfl ?_
    exact pm_irI rfl rfl
  · refine pm_irun 3 (σ' := (12, [some (.ref 49)], [.int (0 : Int32), .ref 53], M)) rfl ?_
    refine pm_igt (c := pm_in (0 : Int32) 2) (σ1 := (13, [some (.ref 49)], [.int (M.1 53 0)], M)) (by decide) rfl ?_
    refine pm_irun 3 (σ' := (18, [some (.ref 49)], [.int (1 : Int32), .ref 53, .int (M.1 53 0)], M)) rfl ?_
    refine pm_igt (c := pm_in (1 : Int32) 2) (σ1 := (19, [some (.ref 49)], [.int (M.1 53 1), .int (M.1 53 0)], M)) (by decide) rfl ?_
    refine pm_irun 2 (σ' := (24, [some (.ref 49)], [.int ((M.1 53 0) + (M.1 53 1))], M)) rfl ?_
    exact pm_irI rfl rfl
def sR_where (a1 : Int32) (a2 : Int32) (M : pm_M) : Option (Int32 × pm_M) := pm_bd (sR_in (a2.toInt64) (0 : Int64) (2 : Int64) M) fun v2 M1 => if ¬ v2 = 0 then (pm_loop (fun _ _ => none) (fun (g3 : Int32 → pm_M → Option (Int32 × pm_M)) x5 M4 => if (M4.1 49 1) ≤ x5 then (some ((-12 : Int32), M4)) else (pm_bd (sR_inTruth M4) fun v7 M6 => pm_bd (sR_in (a1.toInt64) (0 : Int64) (v7 - (1 : Int32)).toInt64 M6) fun v9 M8 => if v9 = 0 then (some ((-12 : Int32), M8)) else (pm_loop (fun _ _ => none) (fun (g10 : Int32 → pm_M → Option (Int32 × pm_M)) x12 M11 => if pm_in x5 5 then (if (M11.1 66 x5.toNatClampNeg) ≤ x12 then (pm_lt ((x5 + (1 : Int32))) fun x13 => g3 x13 M11) else (if pm_in (((8 : Int32) * x5) + x12) 40 then (if ¬ (M11.1 67 (((8 : Int32) * x5) + x12).toNatClampNeg) = a1 then (pm_lt ((x12 + (1 : Int32))) fun x14 => g10 x14 M11) else (if ¬ a2 = 0 then (if ¬ a2 = (1 : Int32) then (some (x12, M11)) else (if pm_in a1 8 then (some ((M11.1 68 a1.toNatClampNeg), M11)) else none)) else (some (x5, M11)))) else none)) else none) 1000000 (0 : Int32) M8))) 1000000 (0 : Int32) M1) else (some ((-2 : Int32), M1))
abbrev I_R_where (sh : Option (Int32 × pm_M)) (σ : pm_St) : Prop := pm_Im none (pm_Ev 1) pm_T189 (some .int) pm_rI sh σ
set_option maxHeartbeats 4000000 in
set_option maxRecDepth 100000 in
theorem sR_where_ok (a1 : Int32) (a2 : Int32) (M : pm_M) : ∀ r, sR_where a1 a2 M = some r → pm_Ev 2 189 [.ref 49, .int a1, .int a2] M (pm_rI r).1 (pm_rI r).2 := by
  refine pm_meth (al := [some (.ref 49), some (.int a1), some (.int a2), none, none]) rfl rfl rfl rfl rfl ?_
  unfold sR_where
  show I_R_where _ (0, [some (.ref 49), some (.int a1), some (.int a2), none, none], [], M)
  refine pm_irun 4 (σ' := (6, [some (.ref 49), some (.int a1), some (.int a2), none, none], [.long (2 : Int64), .long (0 : Int64), .long a2.toInt64], M)) rfl ?_
  refine pm_icI (as := [.long a2.toInt64, .long (0 : Int64), .long (2 : Int64)]) (rest := []) rfl rfl rfl rfl (Nat.le_of_ble_eq_true rfl) rfl (fun r h => pm_Ev_mono (Nat.le_of_ble_eq_true rfl) (sR_in_ok (a2.toInt64) (0 : Int64) (2 : Int64) M r h)) (fun v2 M1 => ?_)
  show pm_Im _ _ _ _ _ _ (9, [some (.ref 49), some (.int a1), some (.int a2), none, none], [.int v2], M1)
  refine pm_iite (σ1 := (15, [some (.ref 49), some (.int a1), some (.int a2), none, none], [], M1)) (σ2 := (12, [some (.ref 49), some (.int a1), some (.int a2), none, none], [], M1)) rfl (fun _ => ?_) (fun _ => ?_)
  · refine pm_irun 2 (σ' := (17, [some (.ref 49), some (.int a1), some (.int a2), some (.int (0 : Int32)), none], [], M1)) rfl ?_
    refine pm_iloop (fun (g : Int32 → pm_M → Option (Int32 × pm_M)) => ∀ (x5 : Int32) (M4 : pm_M), I_R_where (g x5 M4) (17, [some (.ref 49), some (.int a1), some (.int a2), some (.int x5), none], [], M4)) (fun _ _ => pm_inone) (fun g3 hg3 x5 M4 => ?_) 1000000 _ _
    show I_R_where _ (17, [some (.ref 49), some (.int a1), some (.int a2), some (.int x5), none], [], M4)
    refine pm_irun 3 (σ' := (22, [some (.ref 49), some (.int a1), some (.int a2), some (.int x5), none], [.int (M4.1 49 1), .int x5], M4)) rfl ?_
    refine pm_iite (σ1 := (108, [some (.ref 49), some (.int a1), some (.int a2), some (.int x5), none], [], M4)) (σ2 := (25, [some (.ref 49), some (.int a1), some (.int a2), some (.int x5), none], [], M4)) rfl (fun _ => ?_) (fun _ => ?_)
    · refine pm_irun 1 (σ' := (110, [some (.ref 49), some (.int a1), some (.int a2), some (.int x5), none], [.int (-12 : Int32)], M4)) rfl ?_
      exact pm_irI rfl rfl
    · refine pm_irun 4 (σ' := (29, [some (.ref 49), some (.int a1), some (.int a2), some (.int x5), none], [.ref 49, .long (0 : Int64), .long a1.toInt64], M4)) rfl ?_
      refine pm_icI (as := [.ref 49]) (rest := [.long (0 : Int64), .long a1.toInt64]) rfl rfl rfl rfl (Nat.le_of_ble_eq_true rfl) rfl (fun r h => pm_Ev_mono (Nat.le_of_ble_eq_true rfl) (sR_inTruth_ok M4 r h)) (fun v7 M6 => ?_)
      show pm_Im _ _ _ _ _ _ (32, [some (.ref 49), some (.int a1), some (.int a2), some (.int x5), none], [.int v7, .long (0 : Int64), .long a1.toInt64], M6)
      refine pm_irun 3 (σ' := (35, [some (.ref 49), some (.int a1), some (.int a2), some (.int x5), none], [.long (v7 - (1 : Int32)).toInt64, .long (0 : Int64), .long a1.toInt64], M6)) rfl ?_
      refine pm_icI (as := [.long a1.toInt64, .long (0 : Int64), .long (v7 - (1 : Int32)).toInt64]) (rest := []) rfl rfl rfl rfl (Nat.le_of_ble_eq_true rfl) rfl (fun r h => pm_Ev_mono (Nat.le_of_ble_eq_true rfl) (sR_in_ok (a1.toInt64) (0 : Int64) (v7 - (1 : Int32)).toInt64 M6 r h)) (fun v9 M8 => ?_)
      show pm_Im _ _ _ _ _ _ (38, [some (.ref 49), some (.int a1), some (.int a2), some (.int x5), none], [.int v9], M8)
      refine pm_iite (σ1 := (108, [some (.ref 49), some (.int a1), some (.int a2), some (.int x5), none], [], M8)) (σ2 := (41, [some (.ref 49), some (.int a1), some (.int a2), some (.int x5), none], [], M8)) rfl (fun _ => ?_) (fun _ => ?_)
      · refine pm_irun 1 (σ' := (110, [some (.ref 49), some (.int a1), some (.int a2), some (.int x5), none], [.int (-12 : Int32)], M8)) rfl ?_
        exact pm_irI rfl rfl
      · refine pm_irun 2 (σ' := (44, [some (.ref 49), some (.int a1), some (.int a2), some (.int x5), some (.int (0 : Int32))], [], M8)) rfl ?_
        refine pm_iloop (fun (g : Int32 → pm_M → Option (Int32 × pm_M)) => ∀ (x12 : Int32) (M11 : pm_M), I_R_where (g x12 M11) (44, [some (.ref 49), some (.int a1), some (.int a2), some (.int x5), some (.int x12)], [], M11)) (fun _ _ => pm_inone) (fun g10 hg10 x12 M11 => ?_) 1000000 _ _
        show I_R_where _ (44, [some (.ref 49), some (.int a1), some (.int a2), some (.int x5), some (.int x12)], [], M11)
        refine pm_irun 4 (σ' := (51, [some (.ref 49), some (.int a1), some (.int a2), some (.int x5), some (.int x12)], [.int x5, .ref 66, .int x12], M11)) rfl ?_
        refine pm_igd (σ1 := (52, [some (.ref 49), some (.int a1), some (.int a2), some (.int x5), some (.int x12)], [.int (M11.1 66 x5.toNatClampNeg), .int x12], M11)) rfl (fun _ => ?_)
        refine pm_iite (σ1 := (102, [some (.ref 49), some (.int a1), some (.int a2), some (.int x5), some (.int x12)], [], M11)) (σ2 := (55, [some (.ref 49), some (.int a1), some (.int a2), some (.int x5), some (.int x12)], [], M11)) rfl (fun _ => ?_) (fun _ => ?_)
        · refine pm_irun 1 (σ' := (105, [some (.ref 49), some (.int a1), some (.int a2), some (.int (x5 + (1 : Int32))), some (.int x12)], [], M11)) rfl ?_
          refine pm_ilt (fun y => (105, [some (.ref 49), some (.int a1), some (.int a2), some (.int y), some (.int x12)], [], M11)) (fun x13 => ?_)
          refine pm_irun 1 (σ' := (17, [some (.ref 49), some (.int a1), some (.int a2), some (.int x13), some (.int x12)], [], M11)) rfl ?_
          refine pm_iwk (al' := [some (.ref 49), some (.int a1), some (.int a2), some (.int x13), none]) (pm_wkS (pm_wkS (pm_wkS (pm_wkS (pm_wkN pm_wk0))))) ?_
          exact hg3 _ _
        · refine pm_irun 7 (σ' := (66, [some (.ref 49), some (.int a1), some (.int a2), some (.int x5), some (.int x12)], [.int (((8 : Int32) * x5) + x12), .ref 67], M11)) rfl ?_
          refine pm_igd (σ1 := (67, [some (.ref 49), some (.int a1), some (.int a2), some (.int x5), some (.int x12)], [.int (M11.1 67 (((8 : Int32) * x5) + x12).toNatClampNeg)], M11)) rfl (fun _ => ?_)
          refine pm_irun 1 (σ' := (68, [some (.ref 49), some (.int a1), some (.int a2), some (.int x5), some (.int x12)], [.int a1, .int (M11.1 67 (((8 : Int32) * x5) + x12).toNatClampNeg)], M11)) rfl ?_
          refine pm_iite (σ1 := (96, [some (.ref 49), some (.int a1), some (.int a2), some (.int x5), some (.int x12)], [], M11)) (σ2 := (71, [some (.ref 49), some (.int a1), some (.int a2), some (.int x5), some (.int x12)], [], M11)) rfl (fun _ => ?_) (fun _ => ?_)
          · refine pm_irun 1 (σ' := (99, [some (.ref 49), some (.int a1), some (.int a2), some (.int x5), some (.int (x12 + (1 : Int32)))], [], M11)) rfl ?_
            refine pm_ilt (fun y => (99, [some (.ref 49), some (.int a1), some (.int a2), some (.int x5), some (.int y)], [], M11)) (fun x14 => ?_)
            refine pm_irun 1 (σ' := (44, [some (.ref 49), some (.int a1), some (.int a2), some (.int x5), some (.int x14)], [], M11)) rfl ?_
            exact hg10 _ _
          · refine pm_irun 1 (σ' := (72, [some (.ref 49), some (.int a1), some (.int a2), some (.int x5), some (.int x12)], [.int a2], M11)) rfl ?_
            refine pm_iite (σ1 := (79, [some (.ref 49), some (.int a1), some (.int a2), some (.int x5), some (.int x12)], [], M11)) (σ2 := (75, [some (.ref 49), some (.int a1), some (.int a2), some (.int x5), some (.int x12)], [], M11)) rfl (fun _ => ?_) (fun _ => ?_)
            · refine pm_irun 2 (σ' := (81, [some (.ref 49), some (.int a1), some (.int a2), some (.int x5), some (.int x12)], [.int (1 : Int32), .int a2], M11)) rfl ?_
              refine pm_iite (σ1 := (93, [some (.ref 49), some (.int a1), some (.int a2), some (.int x5), some (.int x12)], [], M11)) (σ2 := (84, [some (.ref 49), some (.int a1), some (.int a2), some (.int x5), some (.int x12)], [], M11)) rfl (fun _ => ?_) (fun _ => ?_)
              · refine pm_irun 1 (σ' := (95, [some (.ref 49), some (.int a1), some (.int a2), some (.int x5), some (.int x12)], [.int x12], M11)) rfl ?_
                exact pm_irI rfl rfl
              · refine pm_irun 3 (σ' := (89, [some (.ref 49), some (.int a1), some (.int a2), some (.int x5), some (.int x12)], [.int a1, .ref 68], M11)) rfl ?_
                refine pm_igd (σ1 := (90, [some (.ref 49), some (.int a1), some (.int a2), some (.int x5), some (.int x12)], [.int (M11.1 68 a1.toNatClampNeg)], M11)) rfl (fun _ => ?_)
                refine pm_irun 1 (σ' := (95, [some (.ref 49), some (.int a1), some (.int a2), some (.int x5), some (.int x12)], [.int (M11.1 68 a1.toNatClampNeg)], M11)) rfl ?_
                exact pm_irI rfl rfl
            · refine pm_irun 2 (σ' := (95, [some (.ref 49), some (.int a1), some (.int a2), some (.int x5), some (.int x12)], [.int x5], M11)) rfl ?_
              exact pm_irI rfl rfl
  · refine pm_irun 1 (σ' := (14, [some (.ref 49), some (.int a1), some (.int a2), none, none], [.int (-2 : Int32)], M1)) rfl ?_
    exact pm_irI rfl rfl
def sC_stands (a1 : Int32) (a2 : Int32) (M : pm_M) : Option (Int32 × pm_M) := pm_bd (sNet_hasStation_1 a1 M) fun v2 M1 => if ¬ v2 = 0 then (if a2 < 0 then (some ((-1 : Int32), M1)) else (if pm_in a1 5 then (if a2 < (M1.1 32 a1.toNatClampNeg) then (if pm_in ((a1 * (8 : Int32)) + a2) 40 then (some ((M1.1 31 ((a1 * (8 : Int32)) + a2).toNatClampNeg), M1)) else none) else (some ((-1 : Int32), M1))) else none)) else (some ((-2 : Int32), M1))
abbrev I_C_stands (sh : Option (Int32 × pm_M)) (σ : pm_St) : Prop := pm_Im none (pm_Ev 1) pm_T83 (some .int) pm_rI sh σ
set_option maxHeartbeats 4000000 in
set_option maxRecDepth 100000 in
theorem sC_stands_ok (a1 : Int32) (a2 : Int32) (M : pm_M) : ∀ r, sC_stands a1 a2 M = some r → pm_Ev 2 83 [.ref 0, .int a1, .int a2] M (pm_rI r).1 (pm_rI r).2 := by
  refine pm_meth (al := [some (.ref 0), some (.int a1), some (.int a2)]) rfl rfl rfl rfl rfl ?_
  unfold sC_stands
  show I_C_stands _ (0, [some (.ref 0), some (.int a1), some (.int a2)], [], M)
  refine pm_irun 3 (σ' := (5, [some (.ref 0), some (.int a1), some (.int a2)], [.int a1, .ref 1], M)) rfl ?_
  refine pm_icI (as := [.ref 1, .int a1]) (rest := []) rfl rfl rfl rfl (Nat.le_of_ble_eq_true rfl) rfl (fun r h => pm_Ev_mono (Nat.le_of_ble_eq_true rfl) (sNet_hasStation_1_ok a1 M r h)) (fun v2 M1 => ?_)
  show pm_Im _ _ _ _ _ _ (8, [some (.ref 0), some (.int a1), some (.int a2)], [.int v2], M1)
  refine pm_iite (σ1 := (14, [some (.ref 0), some (.int a1), some (.int a2)], [], M1)) (σ2 := (11, [some (.ref 0), some (.int a1), some (.int a2)], [], M1)) rfl (fun _ => ?_) (fun _ => ?_)
  · refine pm_irun 1 (σ' := (15, [some (.ref 0), some (.int a1), some (.int a2)], [.int a2], M1)) rfl ?_
    refine pm_iite (σ1 := (31, [some (.ref 0), some (.int a1), some (.int a2)], [], M1)) (σ2 := (18, [some (.ref 0), some (.int a1), some (.int a2)], [], M1)) rfl (fun _ => ?_) (fun _ => ?_)
    · refine pm_irun 1 (σ' := (32, [some (.ref 0), some (.int a1), some (.int a2)], [.int (-1 : Int32)], M1)) rfl ?_
      exact pm_irI rfl rfl
    · refine pm_irun 5 (σ' := (27, [some (.ref 0), some (.int a1), some (.int a2)], [.int a1, .ref 32, .int a2], M1)) rfl ?_
      refine pm_igd (σ1 := (28, [some (.ref 0), some (.int a1), some (.int a2)], [.int (M1.1 32 a1.toNatClampNeg), .int a2], M1)) rfl (fun _ => ?_)
      refine pm_iite (σ1 := (33, [some (.ref 0), some (.int a1), some (.int a2)], [], M1)) (σ2 := (31, [some (.ref 0), some (.int a1), some (.int a2)], [], M1)) rfl (fun _ => ?_) (fun _ => ?_)
      · refine pm_irun 8 (σ' := (46, [some (.ref 0), some (.int a1), some (.int a2)], [.int ((a1 * (8 : Int32)) + a2), .ref 31], M1)) rfl ?_
        refine pm_igd (σ1 := (47, [some (.ref 0), some (.int a1), some (.int a2)], [.int (M1.1 31 ((a1 * (8 : Int32)) + a2).toNatClampNeg)], M1)) rfl (fun _ => ?_)
        exact pm_irI rfl rfl
      · refine pm_irun 1 (σ' := (32, [some (.ref 0), some (.int a1), some (.int a2)], [.int (-1 : Int32)], M1)) rfl ?_
        exact pm_irI rfl rfl
  · refine pm_irun 1 (σ' := (13, [some (.ref 0), some (.int a1), some (.int a2)], [.int (-2 : Int32)], M1)) rfl ?_
    exact pm_irI rfl rfl
def sR_stands (a1 : Int32) (a2 : Int32) (M : pm_M) : Option (Int32 × pm_M) := pm_bd (sR_isStation a1 M) fun v2 M1 => if ¬ v2 = 0 then (if pm_in a1 5 then (pm_bd (sR_in (a2.toInt64) (0 : Int64) ((M1.1 66 a1.toNatClampNeg) - (1 : Int32)).toInt64 M1) fun v4 M3 => if v4 = 0 then (some ((-1 : Int32), M3)) else (if pm_in (((8 : Int32) * a1) + a2) 40 then (some ((M3.1 67 (((8 : Int32) * a1) + a2).toNatClampNeg), M3)) else none)) else none) else (some ((-2 : Int32), M1))
abbrev I_R_stands (sh : Option (Int32 × pm_M)) (σ : pm_St) : Prop := pm_Im none (pm_Ev 2) pm_T190 (some .int) pm_rI sh σ
set_option maxHeartbeats 4000000 in
set_option maxRecDepth 100000 in
theorem sR_stands_ok (a1 : Int32) (a2 : Int32) (M : pm_M) : ∀ r, sR_stands a1 a2 M = some r → pm_Ev 3 190 [.ref 49, .int a1, .int a2] M (pm_rI r).1 (pm_rI r).2 := by
  refine pm_meth (al := [some (.ref 49), some (.int a1), some (.int a2)]) rfl rfl rfl rfl rfl ?_
  unfold sR_stands
  show I_R_stands _ (0, [some (.ref 49), some (.int a1), some (.int a2)], [], M)
  refine pm_irun 2 (σ' := (2, [some (.ref 49), some (.int a1), some (.int a2)], [.int a1, .ref 49], M)) rfl ?_
  refine pm_icI (as := [.ref 49, .int a1]) (rest := []) rfl rfl rfl rfl (Nat.le_of_ble_eq_true rfl) rfl (fun r h => pm_Ev_mono (Nat.le_of_ble_eq_true rfl) (sR_isStation_ok a1 M r h)) (fun v2 M1 => ?_)
  show pm_Im _ _ _ _ _ _ (5, [some (.ref 49), some (.int a1), some (.int a2)], [.int v2], M1)
  refine pm_iite (σ1 := (11, [some (.ref 49), some (.int a1), some (.int a2)], [], M1)) (σ2 := (8, [some (.ref 49), some (.int a1), some (.int a2)], [], M1)) rfl (fun _ => ?_) (fun _ => ?_)
  · refine pm_irun 6 (σ' := (19, [some (.ref 49), some (.int a1), some (.int a2)], [.int a1, .ref 66, .long (0 : Int64), .long a2.toInt64], M1)) rfl ?_
    refine pm_igd (σ1 := (20, [some (.ref 49), some (.int a1), some (.int a2)], [.int (M1.1 66 a1.toNatClampNeg), .long (0 : Int64), .long a2.toInt64], M1)) rfl (fun _ => ?_)
    refine pm_irun 3 (σ' := (23, [some (.ref 49), some (.int a1), some (.int a2)], [.long ((M1.1 66 a1.toNatClampNeg) - (1 : Int32)).toInt64, .long (0 : Int64), .long a2.toInt64], M1)) rfl ?_
    refine pm_icI (as := [.long a2.toInt64, .long (0 : Int64), .long ((M1.1 66 a1.toNatClampNeg) - (1 : Int32)).toInt64]) (rest := []) rfl rfl rfl rfl (Nat.le_of_ble_eq_true rfl) rfl (fun r h => pm_Ev_mono (Nat.le_of_ble_eq_true rfl) (sR_in_ok (a2.toInt64) (0 : Int64) ((M1.1 66 a1.toNatClampNeg) - (1 : Int32)).toInt64 M1 r h)) (fun v4 M3 => ?_)
    show pm_Im _ _ _ _ _ _ (26, [some (.ref 49), some (.int a1), some (.int a2)], [.int v4], M3)
    refine pm_iite (σ1 := (43, [some (.ref 49), some (.int a1), some (.int a2)], [], M3)) (σ2 := (29, [some (.ref 49), some (.int a1), some (.int a2)], [], M3)) rfl (fun _ => ?_) (fun _ => ?_)
    · refine pm_irun 1 (σ' := (44, [some (.ref 49), some (.int a1), some (.int a2)], [.int (-1 : Int32)], M3)) rfl ?_
      exact pm_irI rfl rfl
    · refine pm_irun 7 (σ' := (39, [some (.ref 49), some (.int a1), some (.int a2)], [.int (((8 : Int32) * a1) + a2), .ref 67], M3)) rfl ?_
      refine pm_igd (σ1 := (40, [some (.ref 49), some (.int a1), some (.int a2)], [.int (M3.1 67 (((8 : Int32) * a1) + a2).toNatClampNeg)], M3)) rfl (fun _ => ?_)
      refine pm_irun 1 (σ' := (44, [some (.ref 49), some (.int a1), some (.int a2)], [.int (M3.1 67 (((8 : Int32) * a1) + a2).toNatClampNeg)], M3)) rfl ?_
      exact pm_irI rfl rfl
  · refine pm_irun 1 (σ' := (10, [some (.ref 49), some (.int a1), some (.int a2)], [.int (-2 : Int32)], M1)) rfl ?_
    exact pm_irI rfl rfl
def sC_passed (a1 : Int32) (a2 : Int32) (M : pm_M) : Option (Int32 × pm_M) := pm_bd (sC_isClass a1 M) fun v2 M1 => if v2 = 0 then (some ((-2 : Int32), M1)) else (pm_bd (sNet_hasStation_1 a2 M1) fun v4 M3 => if ¬ v4 = 0 then (if pm_in ((a1 * (5 : Int32)) + a2) 10 then (some ((M3.1 35 ((a1 * (5 : Int32)) + a2).toNatClampNeg), M3)) else none) else (some ((-2 : Int32), M3)))
abbrev I_C_passed (sh : Option (Int32 × pm_M)) (σ : pm_St) : Prop := pm_Im none (pm_Ev 1) pm_T84 (some .int) pm_rI sh σ
set_option maxHeartbeats 4000000 in
set_option maxRecDepth 100000 in
theorem sC_passed_ok (a1 : Int32) (a2 : Int32) (M : pm_M) : ∀ r, sC_passed a1 a2 M = some r → pm_Ev 2 84 [.ref 0, .int a1, .int a2] M (pm_rI r).1 (pm_rI r).2 := by
  refine pm_meth (al := [some (.ref 0), some (.int a1), some (.int a2)]) rfl rfl rfl rfl rfl ?_
  unfold sC_passed
  show I_C_passed _ (0, [some (.ref 0), some (.int a1), some (.int a2)], [], M)
  refine pm_irun 1 (σ' := (1, [some (.ref 0), some (.int a1), some (.int a2)], [.int a1], M)) rfl ?_
  refine pm_icI (as := [.int a1]) (rest := []) rfl rfl rfl rfl (Nat.le_of_ble_eq_true rfl) rfl (fun r h => pm_Ev_mono (Nat.le_of_ble_eq_true rfl) (sC_isClass_ok a1 M r h)) (fun v2 M1 => ?_)
  show pm_Im _ _ _ _ _ _ (4, [some (.ref 0), some (.int a1), some (.int a2)], [.int v2], M1)
  refine pm_iite (σ1 := (18, [some (.ref 0), some (.int a1), some (.int a2)], [], M1)) (σ2 := (7, [some (.ref 0), some (.int a1), some (.int a2)], [], M1)) rfl (fun _ => ?_) (fun _ => ?_)
  · refine pm_irun 1 (σ' := (20, [some (.ref 0), some (.int a1), some (.int a2)], [.int (-2 : Int32)], M1)) rfl ?_
    exact pm_irI rfl rfl
  · refine pm_irun 3 (σ' := (12, [some (.ref 0), some (.int a1), some (.int a2)], [.int a2, .ref 1], M1)) rfl ?_
    refine pm_icI (as := [.ref 1, .int a2]) (rest := []) rfl rfl rfl rfl (Nat.le_of_ble_eq_true rfl) rfl (fun r h => pm_Ev_mono (Nat.le_of_ble_eq_true rfl) (sNet_hasStation_1_ok a2 M1 r h)) (fun v4 M3 => ?_)
    show pm_Im _ _ _ _ _ _ (15, [some (.ref 0), some (.int a1), some (.int a2)], [.int v4], M3)
    refine pm_iite (σ1 := (21, [some (.ref 0), some (.int a1), some (.int a2)], [], M3)) (σ2 := (18, [some (.ref 0), some (.int a1), some (.int a2)], [], M3)) rfl (fun _ => ?_) (fun _ => ?_)
    · refine pm_irun 8 (σ' := (33, [some (.ref 0), some (.int a1), some (.int a2)], [.int ((a1 * (5 : Int32)) + a2), .ref 35], M3)) rfl ?_
      refine pm_igd (σ1 := (34, [some (.ref 0), some (.int a1), some (.int a2)], [.int (M3.1 35 ((a1 * (5 : Int32)) + a2).toNatClampNeg)], M3)) rfl (fun _ => ?_)
      exact pm_irI rfl rfl
    · refine pm_irun 1 (σ' := (20, [some (.ref 0), some (.int a1), some (.int a2)], [.int (-2 : Int32)], M3)) rfl ?_
      exact pm_irI rfl rfl
def sR_passed (a1 : Int32) (a2 : Int32) (M : pm_M) : Option (Int32 × pm_M) := pm_bd (sR_isPart a1 M) fun v2 M1 => if v2 = 0 then (some ((-2 : Int32), M1)) else (pm_bd (sR_isStation a2 M1) fun v4 M3 => if v4 = 0 then (some ((-2 : Int32), M3)) else (if pm_in (((5 : Int32) * a1) + a2) 10 then (some ((M3.1 69 (((5 : Int32) * a1) + a2).toNatClampNeg), M3)) else none))
abbrev I_R_passed (sh : Option (Int32 × pm_M)) (σ : pm_St) : Prop := pm_Im none (pm_Ev 2) pm_T191 (some .int) pm_rI sh σ
set_option maxHeartbeats 4000000 in
set_option maxRecDepth 100000 in
theorem sR_passed_ok (a1 : Int32) (a2 : Int32) (M : pm_M) : ∀ r, sR_passed a1 a2 M = some r → pm_Ev 3 191 [.ref 49, .int a1, .int a2] M (pm_rI r).1 (pm_rI r).2 := by
  refine pm_meth (al := [some (.ref 49), some (.int a1), some (.int a2)]) rfl rfl rfl rfl rfl ?_
  unfold sR_passed
  show I_R_passed _ (0, [some (.ref 49), some (.int a1), some (.int a2)], [], M)
  refine pm_irun 1 (σ' := (1, [some (.ref 49), some (.int a1), some (.int a2)], [.int a1], M)) rfl ?_
  refine pm_icI (as := [.int a1]) (rest := []) rfl rfl rfl rfl (Nat.le_of_ble_eq_true rfl) rfl (fun r h => pm_Ev_mono (Nat.le_of_ble_eq_true rfl) (sR_isPart_ok a1 M r h)) (fun v2 M1 => ?_)
  show pm_Im _ _ _ _ _ _ (4, [some (.ref 49), some (.int a1), some (.int a2)], [.int v2], M1)
  refine pm_iite (σ1 := (28, [some (.ref 49), some (.int a1), some (.int a2)], [], M1)) (σ2 := (7, [some (.ref 49), some (.int a1), some (.int a2)], [], M1)) rfl (fun _ => ?_) (fun _ => ?_)
  · refine pm_irun 1 (σ' := (30, [some (.ref 49), some (.int a1), some (.int a2)], [.int (-2 : Int32)], M1)) rfl ?_
    exact pm_irI rfl rfl
  · refine pm_irun 2 (σ' := (9, [some (.ref 49), some (.int a1), some (.int a2)], [.int a2, .ref 49], M1)) rfl ?_
    refine pm_icI (as := [.ref 49, .int a2]) (rest := []) rfl rfl rfl rfl (Nat.le_of_ble_eq_true rfl) rfl (fun r h => pm_Ev_mono (Nat.le_of_ble_eq_true rfl) (sR_isStation_ok a2 M1 r h)) (fun v4 M3 => ?_)
    show pm_Im _ _ _ _ _ _ (12, [some (.ref 49), some (.int a1), some (.int a2)], [.int v4], M3)
    refine pm_iite (σ1 := (28, [some (.ref 49), some (.int a1), some (.int a2)], [], M3)) (σ2 := (15, [some (.ref 49), some (.int a1), some (.int a2)], [], M3)) rfl (fun _ => ?_) (fun _ => ?_)
    · refine pm_irun 1 (σ' := (30, [some (.ref 49), some (.int a1), some (.int a2)], [.int (-2 : Int32)], M3)) rfl ?_
      exact pm_irI rfl rfl
    · refine pm_irun 7 (σ' := (24, [some (.ref 49), some (.int a1), some (.int a2)], [.int (((5 : Int32) * a1) + a2), .ref 69], M3)) rfl ?_
      refine pm_igd (σ1 := (25, [some (.ref 49), some (.int a1), some (.int a2)], [.int (M3.1 69 (((5 : Int32) * a1) + a2).toNatClampNeg)], M3)) rfl (fun _ => ?_)
      refine pm_irun 1 (σ' := (30, [some (.ref 49), some (.int a1), some (.int a2)], [.int (M3.1 69 (((5 : Int32) * a1) + a2).toNatClampNeg)], M3)) rfl ?_
      exact pm_irI rfl rfl
def sC_homePasses (a1 : Int32) (M : pm_M) : Option (Int32 × pm_M) := if pm_in a1 2 then (pm_lt ((M.1 4 a1.toNatClampNeg)) fun x1 => pm_bd (sNet_hasStation_1 x1 M) fun v3 M2 => if v3 = 0 then (some ((0 : Int32), M2)) else (if pm_in ((a1 * (5 : Int32)) + x1) 10 then (some ((M2.1 35 ((a1 * (5 : Int32)) + x1).toNatClampNeg), M2)) else none)) else none
abbrev I_C_homePasses (sh : Option (Int32 × pm_M)) (σ : pm_St) : Prop := pm_Im none (pm_Ev 1) pm_T112 (some .int) pm_rI sh σ
set_option maxHeartbeats 4000000 in
set_option maxRecDepth 100000 in
theorem sC_homePasses_ok (a1 : Int32) (M : pm_M) : ∀ r, sC_homePasses a1 M = some r → pm_Ev 2 112 [.ref 0, .int a1] M (pm_rI r).1 (pm_rI r).2 := by
  refine pm_meth (al := [some (.ref 0), some (.int a1), none]) rfl rfl rfl rfl rfl ?_
  unfold sC_homePasses
  show I_C_homePasses _ (0, [some (.ref 0), some (.int a1), none], [], M)
  refine pm_irun 4 (σ' := (8, [some (.ref 0), some (.int a1), none], [.int a1, .ref 4], M)) rfl ?_
  refine pm_igd (σ1 := (9, [some (.ref 0), some (.int a1), none], [.int (M.1 4 a1.toNatClampNeg)], M)) rfl (fun _ => ?_)
  refine pm_irun 1 (σ' := (10, [some (.ref 0), some (.int a1), some (.int (M.1 4 a1.toNatClampNeg))], [], M)) rfl ?_
  refine pm_ilt (fun y => (10, [some (.ref 0), some (.int a1), some (.int y)], [], M)) (fun x1 => ?_)
  refine pm_irun 3 (σ' := (15, [some (.ref 0), some (.int a1), some (.int x1)], [.int x1, .ref 1], M)) rfl ?_
  refine pm_icI (as := [.ref 1, .int x1]) (rest := []) rfl rfl rfl rfl (Nat.le_of_ble_eq_true rfl) rfl (fun r h => pm_Ev_mono (Nat.le_of_ble_eq_true rfl) (sNet_hasStation_1_ok x1 M r h)) (fun v3 M2 => ?_)
  show pm_Im _ _ _ _ _ _ (18, [some (.ref 0), some (.int a1), some (.int x1)], [.int v3], M2)
  refine pm_iite (σ1 := (37, [some (.ref 0), some (.int a1), some (.int x1)], [], M2)) (σ2 := (21, [some (.ref 0), some (.int a1), some (.int x1)], [], M2)) rfl (fun _ => ?_) (fun _ => ?_)
  · refine pm_irun 1 (σ' := (38, [some (.ref 0), some (.int a1), some (.int x1)], [.int (0 : Int32)], M2)) rfl ?_
    exact pm_irI rfl rfl
  · refine pm_irun 8 (σ' := (33, [some (.ref 0), some (.int a1), some (.int x1)], [.int ((a1 * (5 : Int32)) + x1), .ref 35], M2)) rfl ?_
    refine pm_igd (σ1 := (34, [some (.ref 0), some (.int a1), some (.int x1)], [.int (M2.1 35 ((a1 * (5 : Int32)) + x1).toNatClampNeg)], M2)) rfl (fun _ => ?_)
    refine pm_irun 1 (σ' := (38, [some (.ref 0), some (.int a1), some (.int x1)], [.int (M2.1 35 ((a1 * (5 : Int32)) + x1).toNatClampNeg)], M2)) rfl ?_
    exact pm_irI rfl rfl
def sC_fitsTimes (a1 : Int64) (a2 : Int32) (M : pm_M) : Option (Int32 × pm_M) := if 0 < a2 then (if ¬ a2.toInt64 = 0 then (if 0 < (lg_cmp a1 ((9223372036854775807 : Int64) / a2.toInt64)) then (some ((0 : Int32), M)) else (if ¬ a2.toInt64 = 0 then (if (lg_cmp a1 ((-9223372036854775808 : Int64) / a2.toInt64)) < 0 then (some ((0 : Int32), M)) else (some ((1 : Int32), M))) else none)) else none) else (some ((1 : Int32), M))
abbrev I_C_fitsTimes (sh : Option (Int32 × pm_M)) (σ : pm_St) : Prop := pm_Im none (pm_Ev 0) pm_T113 (some .boolean) pm_rI sh σ
set_option maxHeartbeats 4000000 in
set_option maxRecDepth 100000 in
theorem sC_fitsTimes_ok (a1 : Int64) (a2 : Int32) (M : pm_M) : ∀ r, sC_fitsTimes a1 a2 M = some r → pm_Ev 1 113 [.long a1, .int a2] M (pm_rI r).1 (pm_rI r).2 := by
  refine pm_meth (al := [some (.long a1), none, some (.int a2)]) rfl rfl rfl rfl rfl ?_
  unfold sC_fitsTimes
  show I_C_fitsTimes _ (0, [some (.long a1), none, some (.int a2)], [], M)
  refine pm_irun 1 (σ' := (1, [some (.long a1), none, some (.int a2)], [.int a2], M)) rfl ?_
  refine pm_iite (σ1 := (6, [some (.long a1), none, some (.int a2)], [], M)) (σ2 := (4, [some (.long a1), none, some (.int a2)], [], M)) rfl (fun _ => ?_) (fun _ => ?_)
  · refine pm_irun 4 (σ' := (12, [some (.long a1), none, some (.int a2)], [.long a2.toInt64, .long (9223372036854775807 : Int64), .long a1], M)) rfl ?_
    refine pm_igd (σ1 := (13, [some (.long a1), none, some (.int a2)], [.long ((9223372036854775807 : Int64) / a2.toInt64), .long a1], M)) rfl (fun _ => ?_)
    refine pm_irun 1 (σ' := (14, [some (.long a1), none, some (.int a2)], [.int (lg_cmp a1 ((9223372036854775807 : Int64) / a2.toInt64))], M)) rfl ?_
    refine pm_iite (σ1 := (32, [some (.long a1), none, some (.int a2)], [], M)) (σ2 := (17, [some (.long a1), none, some (.int a2)], [], M)) rfl (fun _ => ?_) (fun _ => ?_)
    · refine pm_irun 1 (σ' := (33, [some (.long a1), none, some (.int a2)], [.int (0 : Int32)], M)) rfl ?_
      exact pm_irZ (Or.inl rfl) rfl rfl
    · refine pm_irun 4 (σ' := (23, [some (.long a1), none, some (.int a2)], [.long a2.toInt64, .long (-9223372036854775808 : Int64), .long a1], M)) rfl ?_
      refine pm_igd (σ1 := (24, [some (.long a1), none, some (.int a2)], [.long ((-9223372036854775808 : Int64) / a2.toInt64), .long a1], M)) rfl (fun _ => ?_)
      refine pm_irun 1 (σ' := (25, [some (.long a1), none, some (.int a2)], [.int (lg_cmp a1 ((-9223372036854775808 : Int64) / a2.toInt64))], M)) rfl ?_
      refine pm_iite (σ1 := (32, [some (.long a1), none, some (.int a2)], [], M)) (σ2 := (28, [some (.long a1), none, some (.int a2)], [], M)) rfl (fun _ => ?_) (fun _ => ?_)
      · refine pm_irun 1 (σ' := (33, [some (.long a1), none, some (.int a2)], [.int (0 : Int32)], M)) rfl ?_
        exact pm_irZ (Or.inl rfl) rfl rfl
      · refine pm_irun 2 (σ' := (33, [some (.long a1), none, some (.int a2)], [.int (1 : Int32)], M)) rfl ?_
        exact pm_irZ (Or.inr rfl) rfl rfl
  · refine pm_irun 1 (σ' := (5, [some (.long a1), none, some (.int a2)], [.int (1 : Int32)], M)) rfl ?_
    exact pm_irZ (Or.inr rfl) rfl rfl
def sC_earned  (M : pm_M) : Option (Int64 × pm_M) := pm_bd (sC_homePasses (0 : Int32) M) fun v2 M1 => pm_bd (sC_fitsTimes (M.2 7 0) v2 M1) fun v4 M3 => if v4 = 0 then (some ((-4611686018427387904 : Int64), M3)) else (pm_bd (sC_homePasses (1 : Int32) M3) fun v6 M5 => pm_bd (sC_fitsTimes (M3.2 7 1) v6 M5) fun v8 M7 => if ¬ v8 = 0 then (pm_bd (sC_homePasses (0 : Int32) M7) fun v10 M9 => pm_lt (((M7.2 7 0) * v10.toInt64)) fun x11 => pm_bd (sC_homePasses (1 : Int32) M9) fun v13 M12 => pm_lt (((M9.2 7 1) * v13.toInt64)) fun x14 => pm_lt ((x11 + x14)) fun x15 => pm_jn (fun (q18 : Int32) (M17 : pm_M) => pm_jn (fun (q21 : Int32) (M20 : pm_M) => pm_jn (fun (q24 : Int32) (M23 : pm_M) => if q24 = 0 then (some (x15, M23)) else (pm_jn (fun (q27 : Int32) (M26 : pm_M) => pm_jn (fun (q30 : Int32) (M29 : pm_M) => if q27 = q30 then (some (x15, M29)) else (some ((-4611686018427387904 : Int64), M29))) fun (j28 : Int32 → pm_M → Option (Int64 × pm_M)) => if 0 ≤ (lg_cmp x11 (0 : Int64)) then (j28 (0 : Int32) M26) else (j28 (1 : Int32) M26)) fun (j25 : Int32 → pm_M → Option (Int64 × pm_M)) => if 0 ≤ (lg_cmp x15 (0 : Int64)) then (j25 (0 : Int32) M23) else (j25 (1 : Int32) M23))) fun (j22 : Int32 → pm_M → Option (Int64 × pm_M)) => if ¬ q18 = q21 then (j22 (0 : Int32) M20) else (j22 (1 : Int32) M20)) fun (j19 : Int32 → pm_M → Option (Int64 × pm_M)) => if 0 ≤ (lg_cmp x14 (0 : Int64)) then (j19 (0 : Int32) M17) else (j19 (1 : Int32) M17)) fun (j16 : Int32 → pm_M → Option (Int64 × pm_M)) => if 0 ≤ (lg_cmp x11 (0 : Int64)) then (j16 (0 : Int32) M12) else (j16 (1 : Int32) M12)) else (some ((-4611686018427387904 : Int64), M7)))
abbrev I_C_earned (sh : Option (Int64 × pm_M)) (σ : pm_St) : Prop := pm_Im none (pm_Ev 2) pm_T85 (some .long) pm_rL sh σ
set_option maxHeartbeats 4000000 in
set_option maxRecDepth 100000 in
theorem sC_earned_ok  (M : pm_M) : ∀ r, sC_earned  M = some r → pm_Ev 3 85 [.ref 0] M (pm_rL r).1 (pm_rL r).2 := by
  refine pm_meth (al := [some (.ref 0), none, none, none, none, none, none, none]) rfl rfl rfl rfl rfl ?_
  unfold sC_earned
  show I_C_earned _ (0, [some (.ref 0), none, none, none, none, none, none, none], [], M)
  refine pm_irun 4 (σ' := (8, [some (.ref 0), none, none, none, none, none, none, none], [.int (0 : Int32), .ref 7], M)) rfl ?_
  refine pm_igt (c := pm_in (0 : Int32) 2) (σ1 := (9, [some (.ref 0), none, none, none, none, none, none, none], [.long (M.2 7 0)], M)) (by decide) rfl ?_
  refine pm_irun 2 (σ' := (11, [some (.ref 0), none, none, none, none, none, none, none], [.int (0 : Int32), .ref 0, .long (M.2 7 0)], M)) rfl ?_
  refine pm_icI (as := [.ref 0, .int (0 : Int32)]) (rest := [.long (M.2 7 0)]) rfl rfl rfl rfl (Nat.le_of_ble_eq_true rfl) rfl (fun r h => pm_Ev_mono (Nat.le_of_ble_eq_true rfl) (sC_homePasses_ok (0 : Int32) M r h)) (fun v2 M1 => ?_)
  show pm_Im _ _ _ _ _ _ (14, [some (.ref 0), none, none, none, none, none, none, none], [.int v2, .long (M.2 7 0)], M1)
  refine pm_icI (as := [.long (M.2 7 0), .int v2]) (rest := []) rfl rfl rfl rfl (Nat.le_of_ble_eq_true rfl) rfl (fun r h => pm_Ev_mono (Nat.le_of_ble_eq_true rfl) (sC_fitsTimes_ok (M.2 7 0) v2 M1 r h)) (fun v4 M3 => ?_)
  show pm_Im _ _ _ _ _ _ (17, [some (.ref 0), none, none, none, none, none, none, none], [.int v4], M3)
  refine pm_iite (σ1 := (40, [some (.ref 0), none, none, none, none, none, none, none], [], M3)) (σ2 := (20, [some (.ref 0), none, none, none, none, none, none, none], [], M3)) rfl (fun _ => ?_) (fun _ => ?_)
  · refine pm_irun 1 (σ' := (43, [some (.ref 0), none, none, none, none, none, none, none], [.long (-4611686018427387904 : Int64)], M3)) rfl ?_
    exact pm_irL rfl rfl
  · refine pm_irun 4 (σ' := (28, [some (.ref 0), none, none, none, none, none, none, none], [.int (1 : Int32), .ref 7], M3)) rfl ?_
    refine pm_igt (c := pm_in (1 : Int32) 2) (σ1 := (29, [some (.ref 0), none, none, none, none, none, none, none], [.long (M3.2 7 1)], M3)) (by decide) rfl ?_
    refine pm_irun 2 (σ' := (31, [some (.ref 0), none, none, none, none, none, none, none], [.int (1 : Int32), .ref 0, .long (M3.2 7 1)], M3)) rfl ?_
    refine pm_icI (as := [.ref 0, .int (1 : Int32)]) (rest := [.long (M3.2 7 1)]) rfl rfl rfl rfl (Nat.le_of_ble_eq_true rfl) rfl (fun r h => pm_Ev_mono (Nat.le_of_ble_eq_true rfl) (sC_homePasses_ok (1 : Int32) M3 r h)) (fun v6 M5 => ?_)
    show pm_Im _ _ _ _ _ _ (34, [some (.ref 0), none, none, none, none, none, none, none], [.int v6, .long (M3.2 7 1)], M5)
    refine pm_icI (as := [.long (M3.2 7 1), .int v6]) (rest := []) rfl rfl rfl rfl (Nat.le_of_ble_eq_true rfl) rfl (fun r h => pm_Ev_mono (Nat.le_of_ble_eq_true rfl) (sC_fitsTimes_ok (M3.2 7 1) v6 M5 r h)) (fun v8 M7 => ?_)
    show pm_Im _ _ _ _ _ _ (37, [some (.ref 0), none, none, none, none, none, none, none], [.int v8], M7)
    refine pm_iite (σ1 := (44, [some (.ref 0), none, none, none, none, none, none, none], [], M7)) (σ2 := (40, [some (.ref 0), none, none, none, none, none, none, none], [], M7)) rfl (fun _ => ?_) (fun _ => ?_)
    · refine pm_irun 4 (σ' := (52, [some (.ref 0), none, none, none, none, none, none, none], [.int (0 : Int32), .ref 7], M7)) rfl ?_
      refine pm_igt (c := pm_in (0 : Int32) 2) (σ1 := (53, [some (.ref 0), none, none, none, none, none, none, none], [.long (M7.2 7 0)], M7)) (by decide) rfl ?_
      refine pm_irun 2 (σ' := (55, [some (.ref 0), none, none, none, none, none, none, none], [.int (0 : Int32), .ref 0, .long (M7.2 7 0)], M7)) rfl ?_
      refine pm_icI (as := [.ref 0, .int (0 : Int32)]) (rest := [.long (M7.2 7 0)]) rfl rfl rfl rfl (Nat.le_of_ble_eq_true rfl) rfl (fun r h => pm_Ev_mono (Nat.le_of_ble_eq_true rfl) (sC_homePasses_ok (0 : Int32) M7 r h)) (fun v10 M9 => ?_)
      show pm_Im _ _ _ _ _ _ (58, [some (.ref 0), none, none, none, none, none, none, none], [.int v10, .long (M7.2 7 0)], M9)
      refine pm_irun 3 (σ' := (61, [some (.ref 0), some (.long ((M7.2 7 0) * v10.toInt64)), none, none, none, none, none, none], [], M9)) rfl ?_
      refine pm_ilt (fun y => (61, [some (.ref 0), some (.long y), none, none, none, none, none, none], [], M9)) (fun x11 => ?_)
      refine pm_irun 4 (σ' := (69, [some (.ref 0), some (.long x11), none, none, none, none, none, none], [.int (1 : Int32), .ref 7], M9)) rfl ?_
      refine pm_igt (c := pm_in (1 : Int32) 2) (σ1 := (70, [some (.ref 0), some (.long x11), none, none, none, none, none, none], [.long (M9.2 7 1)], M9)) (by decide) rfl ?_
      refine pm_irun 2 (σ' := (72, [some (.ref 0), some (.long x11), none, none, none, none, none, none], [.int (1 : Int32), .ref 0, .long (M9.2 7 1)], M9)) rfl ?_
      refine pm_icI (as := [.ref 0, .int (1 : Int32)]) (rest := [.long (M9.2 7 1)]) rfl rfl rfl rfl (Nat.le_of_ble_eq_true rfl) rfl (fun r h => pm_Ev_mono (Nat.le_of_ble_eq_true rfl) (sC_homePasses_ok (1 : Int32) M9 r h)) (fun v13 M12 => ?_)
      show pm_Im _ _ _ _ _ _ (75, [some (.ref 0), some (.long x11), none, none, none, none, none, none], [.int v13, .long (M9.2 7 1)], M12)
      refine pm_irun 3 (σ' := (78, [some (.ref 0), some (.long x11), none, some (.long ((M9.2 7 1) * v13.toInt64)), none, none, none, none], [], M12)) rfl ?_
      refine pm_ilt (fun y => (78, [some (.ref 0), some (.long x11), none, some (.long y), none, none, none, none], [], M12)) (fun x14 => ?_)
      refine pm_irun 4 (σ' := (83, [some (.ref 0), some (.long x11), none, some (.long x14), none, some (.long (x11 + x14)), none, none], [], M12)) rfl ?_
      refine pm_ilt (fun y => (83, [some (.ref 0), some (.long x11), none, some (.long x14), none, some (.long y), none, none], [], M12)) (fun x15 => ?_)
      refine pm_irun 3 (σ' := (86, [some (.ref 0), some (.long x11), none, some (.long x14), none, some (.long x15), none, none], [.int (lg_cmp x11 (0 : Int64))], M12)) rfl ?_
      refine pm_ijn (fun (g : Int32 → pm_M → Option (Int64 × pm_M)) => ∀ (q18 : Int32) (M17 : pm_M), I_C_earned (g q18 M17) (94, [none, some (.long x11), none, some (.long x14), none, some (.long x15), none, none], [.int q18], M17)) (fun (q18 : Int32) (M17 : pm_M) => ?_) (fun j16 hj16 => ?_)
      · show I_C_earned _ (94, [none, some (.long x11), none, some (.long x14), none, some (.long x15), none, none], [.int q18], M17)
        refine pm_irun 3 (σ' := (97, [none, some (.long x11), none, some (.long x14), none, some (.long x15), none, none], [.int (lg_cmp x14 (0 : Int64)), .int q18], M17)) rfl ?_
        refine pm_ijn (fun (g : Int32 → pm_M → Option (Int64 × pm_M)) => ∀ (q21 : Int32) (M20 : pm_M), I_C_earned (g q21 M20) (105, [none, some (.long x11), none, none, none, some (.long x15), none, none], [.int q21, .int q18], M20)) (fun (q21 : Int32) (M20 : pm_M) => ?_) (fun j19 hj19 => ?_)
        · show I_C_earned _ (105, [none, some (.long x11), none, none, none, some (.long x15), none, none], [.int q21, .int q18], M20)
          refine pm_ijn (fun (g : Int32 → pm_M → Option (Int64 × pm_M)) => ∀ (q24 : Int32) (M23 : pm_M), I_C_earned (g q24 M23) (113, [none, some (.long x11), none, none, none, some (.long x15), none, none], [.int q24], M23)) (fun (q24 : Int32) (M23 : pm_M) => ?_) (fun j22 hj22 => ?_)
          · show I_C_earned _ (113, [none, some (.long x11), none, none, none, some (.long x15), none, none], [.int q24], M23)
            refine pm_irun 1 (σ' := (115, [none, some (.long x11), none, none, none, some (.long x15), none, some (.int q24)], [], M23)) rfl ?_
            refine pm_irun 1 (σ' := (117, [none, some (.long x11), none, none, none, some (.long x15), none, some (.int q24)], [.int q24], M23)) rfl ?_
            refine pm_iite (σ1 := (152, [none, some (.long x11), none, none, none, some (.long x15), none, some (.int q24)], [], M23)) (σ2 := (120, [none, some (.long x11), none, none, none, some (.long x15), none, some (.int q24)], [], M23)) rfl (fun _ => ?_) (fun _ => ?_)
            · refine pm_irun 1 (σ' := (154, [none, some (.long x11), none, none, none, some (.long x15), none, some (.int q24)], [.long x15], M23)) rfl ?_
              exact pm_irL rfl rfl
            · refine pm_irun 3 (σ' := (124, [none, some (.long x11), none, none, none, some (.long x15), none, some (.int q24)], [.int (lg_cmp x15 (0 : Int64))], M23)) rfl ?_
              refine pm_ijn (fun (g : Int32 → pm_M → Option (Int64 × pm_M)) => ∀ (q27 : Int32) (M26 : pm_M), I_C_earned (g q27 M26) (132, [none, some (.long x11), none, none, none, some (.long x15), none, none], [.int q27], M26)) (fun (q27 : Int32) (M26 : pm_M) => ?_) (fun j25 hj25 => ?_)
              · show I_C_earned _ (132, [none, some (.long x11), none, none, none, some (.long x15), none, none], [.int q27], M26)
                refine pm_irun 3 (σ' := (135, [none, some (.long x11), none, none, none, some (.long x15), none, none], [.int (lg_cmp x11 (0 : Int64)), .int q27], M26)) rfl ?_
                refine pm_ijn (fun (g : Int32 → pm_M → Option (Int64 × pm_M)) => ∀ (q30 : Int32) (M29 : pm_M), I_C_earned (g q30 M29) (143, [none, none, none, none, none, some (.long x15), none, none], [.int q30, .int q27], M29)) (fun (q30 : Int32) (M29 : pm_M) => ?_) (fun j28 hj28 => ?_)
                · show I_C_earned _ (143, [none, none, none, none, none, some (.long x15), none, none], [.int q30, .int q27], M29)
                  refine pm_iite (σ1 := (152, [none, none, none, none, none, some (.long x15), none, none], [], M29)) (σ2 := (146, [none, none, none, none, none, some (.long x15), none, none], [], M29)) rfl (fun _ => ?_) (fun _ => ?_)
                  · refine pm_irun 1 (σ' := (154, [none, none, none, none, none, some (.long x15), none, none], [.long x15], M29)) rfl ?_
                    exact pm_irL rfl rfl
                  · refine pm_irun 2 (σ' := (154, [none, none, none, none, none, some (.long x15), none, none], [.long (-4611686018427387904 : Int64)], M29)) rfl ?_
                    exact pm_irL rfl rfl
                refine pm_iite (σ1 := (142, [none, some (.long x11), none, none, none, some (.long x15), none, none], [.int q27], M26)) (σ2 := (138, [none, some (.long x11), none, none, none, some (.long x15), none, none], [.int q27], M26)) rfl (fun _ => ?_) (fun _ => ?_)
                · refine pm_irun 1 (σ' := (143, [none, some (.long x11), none, none, none, some (.long x15), none, none], [.int (0 : Int32), .int q27], M26)) rfl ?_
                  refine pm_iwk (al' := [none, none, none, none, none, some (.long x15), none, none]) (pm_wkS (pm_wkN (pm_wkS (pm_wkS (pm_wkS (pm_wkS (pm_wkS (pm_wkS pm_wk0)))))))) ?_
                  exact hj28 _ _
                · refine pm_irun 2 (σ' := (143, [none, some (.long x11), none, none, none, some (.long x15), none, none], [.int (1 : Int32), .int q27], M26)) rfl ?_
                  refine pm_iwk (al' := [none, none, none, none, none, some (.long x15), none, none]) (pm_wkS (pm_wkN (pm_wkS (pm_wkS (pm_wkS (pm_wkS (pm_wkS (pm_wkS pm_wk0)))))))) ?_
                  exact hj28 _ _
              refine pm_iite (σ1 := (131, [none, some (.long x11), none, none, none, some (.long x15), none, some (.int q24)], [], M23)) (σ2 := (127, [none, some (.long x11), none, none, none, some (.long x15), none, some (.int q24)], [], M23)) rfl (fun _ => ?_) (fun _ => ?_)
              · refine pm_irun 1 (σ' := (132, [none, some (.long x11), none, none, none, some (.long x15), none, some (.int q24)], [.int (0 : Int32)], M23)) rfl ?_
                refine pm_iwk (al' := [none, some (.long x11), none, none, none, some (.long x15), none, none]) (pm_wkS (pm_wkS (pm_wkS (pm_wkS (pm_wkS (pm_wkS (pm_wkS (pm_wkN pm_wk0)))))))) ?_
                exact hj25 _ _
              · refine pm_irun 2 (σ' := (132, [none, some (.long x11), none, none, none, some (.long x15), none, some (.int q24)], [.int (1 : Int32)], M23)) rfl ?_
                refine pm_iwk (al' := [none, some (.long x11), none, none, none, some (.long x15), none, none]) (pm_wkS (pm_wkS (pm_wkS (pm_wkS (pm_wkS (pm_wkS (pm_wkS (pm_wkN pm_wk0)))))))) ?_
                exact hj25 _ _
          refine pm_iite (σ1 := (112, [none, some (.long x11), none, none, none, some (.long x15), none, none], [], M20)) (σ2 := (108, [none, some (.long x11), none, none, none, some (.long x15), none, none], [], M20)) rfl (fun _ => ?_) (fun _ => ?_)
          · refine pm_irun 1 (σ' := (113, [none, some (.long x11), none, none, none, some (.long x15), none, none], [.int (0 : Int32)], M20)) rfl ?_
            exact hj22 _ _
          · refine pm_irun 2 (σ' := (113, [none, some (.long x11), none, none, none, some (.long x15), none, none], [.int (1 : Int32)], M20)) rfl ?_
            exact hj22 _ _
        refine pm_iite (σ1 := (104, [none, some (.long x11), none, some (.long x14), none, some (.long x15), none, none], [.int q18], M17)) (σ2 := (100, [none, some (.long x11), none, some (.long x14), none, some (.long x15), none, none], [.int q18], M17)) rfl (fun _ => ?_) (fun _ => ?_)
        · refine pm_irun 1 (σ' := (105, [none, some (.long x11), none, some (.long x14), none, some (.long x15), none, none], [.int (0 : Int32), .int q18], M17)) rfl ?_
          refine pm_iwk (al' := [none, some (.long x11), none, none, none, some (.long x15), none, none]) (pm_wkS (pm_wkS (pm_wkS (pm_wkN (pm_wkS (pm_wkS (pm_wkS (pm_wkS pm_wk0)))))))) ?_
          exact hj19 _ _
        · refine pm_irun 2 (σ' := (105, [none, some (.long x11), none, some (.long x14), none, some (.long x15), none, none], [.int (1 : Int32), .int q18], M17)) rfl ?_
          refine pm_iwk (al' := [none, some (.long x11), none, none, none, some (.long x15), none, none]) (pm_wkS (pm_wkS (pm_wkS (pm_wkN (pm_wkS (pm_wkS (pm_wkS (pm_wkS pm_wk0)))))))) ?_
          exact hj19 _ _
      refine pm_iite (σ1 := (93, [some (.ref 0), some (.long x11), none, some (.long x14), none, some (.long x15), none, none], [], M12)) (σ2 := (89, [some (.ref 0), some (.long x11), none, some (.long x14), none, some (.long x15), none, none], [], M12)) rfl (fun _ => ?_) (fun _ => ?_)
      · refine pm_irun 1 (σ' := (94, [some (.ref 0), some (.long x11), none, some (.long x14), none, some (.long x15), none, none], [.int (0 : Int32)], M12)) rfl ?_
        refine pm_iwk (al' := [none, some (.long x11), none, some (.long x14), none, some (.long x15), none, none]) (pm_wkN (pm_wkS (pm_wkS (pm_wkS (pm_wkS (pm_wkS (pm_wkS (pm_wkS pm_wk0)))))))) ?_
        exact hj16 _ _
      · refine pm_irun 2 (σ' := (94, [some (.ref 0), some (.long x11), none, some (.long x14), none, some (.long x15), none, none], [.int (1 : Int32)], M12)) rfl ?_
        refine pm_iwk (al' := [none, some (.long x11), none, some (.long x14), none, some (.long x15), none, none]) (pm_wkN (pm_wkS (pm_wkS (pm_wkS (pm_wkS (pm_wkS (pm_wkS (pm_wkS pm_wk0)))))))) ?_
        exact hj16 _ _
    · refine pm_irun 1 (σ' := (43, [some (.ref 0), none, none, none, none, none, none, none], [.long (-4611686018427387904 : Int64)], M7)) rfl ?_
      exact pm_irL rfl rfl
def sR_isProduct (a1 : Int64) (a2 : Int32) (M : pm_M) : Option (Int32 × pm_M) := if a2 = 0 then (some ((1 : Int32), M)) else (if ¬ a2.toInt64 = 0 then (if 0 < (lg_cmp a1 ((9223372036854775807 : Int64) / a2.toInt64)) then (some ((0 : Int32), M)) else (if ¬ a2.toInt64 = 0 then (if (lg_cmp a1 ((-9223372036854775808 : Int64) / a2.toInt64)) < 0 then (some ((0 : Int32), M)) else (some ((1 : Int32), M))) else none)) else none)
abbrev I_R_isProduct (sh : Option (Int32 × pm_M)) (σ : pm_St) : Prop := pm_Im none (pm_Ev 0) pm_T192 (some .boolean) pm_rI sh σ
set_option maxHeartbeats 4000000 in
set_option maxRecDepth 100000 in
theorem sR_isProduct_ok (a1 : Int64) (a2 : Int32) (M : pm_M) : ∀ r, sR_isProduct a1 a2 M = some r → pm_Ev 1 192 [.long a1, .int a2] M (pm_rI r).1 (pm_rI r).2 := by
  refine pm_meth (al := [some (.long a1), none, some (.int a2)]) rfl rfl rfl rfl rfl ?_
  unfold sR_isProduct
  show I_R_isProduct _ (0, [some (.long a1), none, some (.int a2)], [], M)
  refine pm_irun 1 (σ' := (1, [some (.long a1), none, some (.int a2)], [.int a2], M)) rfl ?_
  refine pm_iite (σ1 := (26, [some (.long a1), none, some (.int a2)], [], M)) (σ2 := (4, [some (.long a1), none, some (.int a2)], [], M)) rfl (fun _ => ?_) (fun _ => ?_)
  · refine pm_irun 2 (σ' := (31, [some (.long a1), none, some (.int a2)], [.int (1 : Int32)], M)) rfl ?_
    exact pm_irZ (Or.inr rfl) rfl rfl
  · refine pm_irun 4 (σ' := (10, [some (.long a1), none, some (.int a2)], [.long a2.toInt64, .long (9223372036854775807 : Int64), .long a1], M)) rfl ?_
    refine pm_igd (σ1 := (11, [some (.long a1), none, some (.int a2)], [.long ((9223372036854775807 : Int64) / a2.toInt64), .long a1], M)) rfl (fun _ => ?_)
    refine pm_irun 1 (σ' := (12, [some (.long a1), none, some (.int a2)], [.int (lg_cmp a1 ((9223372036854775807 : Int64) / a2.toInt64))], M)) rfl ?_
    refine pm_iite (σ1 := (30, [some (.long a1), none, some (.int a2)], [], M)) (σ2 := (15, [some (.long a1), none, some (.int a2)], [], M)) rfl (fun _ => ?_) (fun _ => ?_)
    · refine pm_irun 1 (σ' := (31, [some (.long a1), none, some (.int a2)], [.int (0 : Int32)], M)) rfl ?_
      exact pm_irZ (Or.inl rfl) rfl rfl
    · refine pm_irun 4 (σ' := (21, [some (.long a1), none, some (.int a2)], [.long a2.toInt64, .long (-9223372036854775808 : Int64), .long a1], M)) rfl ?_
      refine pm_igd (σ1 := (22, [some (.long a1), none, some (.int a2)], [.long ((-9223372036854775808 : Int64) / a2.toInt64), .long a1], M)) rfl (fun _ => ?_)
      refine pm_irun 1 (σ' := (23, [some (.long a1), none, some (.int a2)], [.int (lg_cmp a1 ((-9223372036854775808 : Int64) / a2.toInt64))], M)) rfl ?_
      refine pm_iite (σ1 := (30, [some (.long a1), none, some (.int a2)], [], M)) (σ2 := (26, [some (.long a1), none, some (.int a2)], [], M)) rfl (fun _ => ?_) (fun _ => ?_)
      · refine pm_irun 1 (σ' := (31, [some (.long a1), none, some (.int a2)], [.int (0 : Int32)], M)) rfl ?_
        exact pm_irZ (Or.inl rfl) rfl rfl
      · refine pm_irun 2 (σ' := (31, [some (.long a1), none, some (.int a2)], [.int (1 : Int32)], M)) rfl ?_
        exact pm_irZ (Or.inr rfl) rfl rfl
def sR_earned  (M : pm_M) : Option (Int64 × pm_M) := pm_loop (fun _ _ _ => none) (fun (g1 : Int64 → Int32 → pm_M → Option (Int64 × pm_M)) x3 x4 M2 => if (2 : Int32) ≤ x4 then (some (x3, M2)) else (if pm_in x4 2 then (pm_jn (fun (q7 : Int32) (M6 : pm_M) => if pm_in x4 2 then (pm_bd (sR_isProduct (M6.2 55 x4.toNatClampNeg) q7 M6) fun v9 M8 => if ¬ v9 = 0 then (if pm_in x4 2 then (pm_lt (((M8.2 55 x4.toNatClampNeg) * q7.toInt64)) fun x10 => pm_jn (fun (M12 : pm_M) => pm_jn (fun (M14 : pm_M) => pm_lt ((x3 + x10)) fun x15 => pm_lt ((x4 + (1 : Int32))) fun x16 => g1 x15 x16 M14) fun (j13 : pm_M → Option (Int64 × pm_M)) => if 0 ≤ (lg_cmp x10 (0 : Int64)) then (j13 M12) else (if 0 ≤ (lg_cmp x3 ((-9223372036854775808 : Int64) - x10)) then (j13 M12) else (some ((-4611686018427387904 : Int64), M12)))) fun (j11 : pm_M → Option (Int64 × pm_M)) => if (lg_cmp x10 (0 : Int64)) ≤ 0 then (j11 M8) else (if 0 < (lg_cmp x3 ((9223372036854775807 : Int64) - x10)) then (some ((-4611686018427387904 : Int64), M8)) else (j11 M8))) else none) else (some ((-4611686018427387904 : Int64), M8))) else none) fun (j5 : Int32 → pm_M → Option (Int64 × pm_M)) => if ¬ (M2.1 52 x4.toNatClampNeg) = (-1 : Int32) then (if pm_in x4 2 then (if pm_in (((5 : Int32) * x4) + (M2.1 52 x4.toNatClampNeg)) 10 then (j5 ((M2.1 69 (((5 : Int32) * x4) + (M2.1 52 x4.toNatClampNeg)).toNatClampNeg)) M2) else none) else none) else (j5 (0 : Int32) M2)) else none)) 1000000 (0 : Int64) (0 : Int32) M
abbrev I_R_earned (sh : Option (Int64 × pm_M)) (σ : pm_St) : Prop := pm_Im none (pm_Ev 1) pm_T193 (some .long) pm_rL sh σ
set_option maxHeartbeats 4000000 in
set_option maxRecDepth 100000 in
theorem sR_earned_ok  (M : pm_M) : ∀ r, sR_earned  M = some r → pm_Ev 2 193 [.ref 49] M (pm_rL r).1 (pm_rL r).2 := by
  refine pm_meth (al := [some (.ref 49), none, none, none, none, none, none]) rfl rfl rfl rfl rfl ?_
  unfold sR_earned
  show I_R_earned _ (0, [some (.ref 49), none, none, none, none, none, none], [], M)
  refine pm_irun 2 (σ' := (2, [some (.ref 49), some (.long (0 : Int64)), none, none, none, none, none], [], M)) rfl ?_
  refine pm_irun 2 (σ' := (4, [some (.ref 49), some (.long (0 : Int64)), none, some (.int (0 : Int32)), none, none, none], [], M)) rfl ?_
  refine pm_iloop (fun (g : Int64 → Int32 → pm_M → Option (Int64 × pm_M)) => ∀ (x3 : Int64) (x4 : Int32) (M2 : pm_M), I_R_earned (g x3 x4 M2) (4, [some (.ref 49), some (.long x3), none, some (.int x4), none, none, none], [], M2)) (fun _ _ _ => pm_inone) (fun g1 hg1 x3 x4 M2 => ?_) 1000000 _ _ _
  show I_R_earned _ (4, [some (.ref 49), some (.long x3), none, some (.int x4), none, none, none], [], M2)
  refine pm_irun 2 (σ' := (6, [some (.ref 49), some (.long x3), none, some (.int x4), none, none, none], [.int (2 : Int32), .int x4], M2)) rfl ?_
  refine pm_iite (σ1 := (121, [some (.ref 49), some (.long x3), none, some (.int x4), none, none, none], [], M2)) (σ2 := (9, [some (.ref 49), some (.long x3), none, some (.int x4), none, none, none], [], M2)) rfl (fun _ => ?_) (fun _ => ?_)
  · refine pm_irun 1 (σ' := (122, [some (.ref 49), some (.long x3), none, some (.int x4), none, none, none], [.long x3], M2)) rfl ?_
    exact pm_irL rfl rfl
  · refine pm_irun 3 (σ' := (14, [some (.ref 49), some (.long x3), none, some (.int x4), none, none, none], [.int x4, .ref 52], M2)) rfl ?_
    refine pm_igd (σ1 := (15, [some (.ref 49), some (.long x3), none, some (.int x4), none, none, none], [.int (M2.1 52 x4.toNatClampNeg)], M2)) rfl (fun _ => ?_)
    refine pm_irun 1 (σ' := (16, [some (.ref 49), some (.long x3), none, some (.int x4), none, none, none], [.int (-1 : Int32), .int (M2.1 52 x4.toNatClampNeg)], M2)) rfl ?_
    refine pm_ijn (fun (g : Int32 → pm_M → Option (Int64 × pm_M)) => ∀ (q7 : Int32) (M6 : pm_M), I_R_earned (g q7 M6) (38, [some (.ref 49), some (.long x3), none, some (.int x4), none, none, none], [.int q7], M6)) (fun (q7 : Int32) (M6 : pm_M) => ?_) (fun j5 hj5 => ?_)
    · show I_R_earned _ (38, [some (.ref 49), some (.long x3), none, some (.int x4), none, none, none], [.int q7], M6)
      refine pm_irun 1 (σ' := (40, [some (.ref 49), some (.long x3), none, some (.int x4), some (.int q7), none, none], [], M6)) rfl ?_
      refine pm_irun 3 (σ' := (45, [some (.ref 49), some (.long x3), none, some (.int x4), some (.int q7), none, none], [.int x4, .ref 55], M6)) rfl ?_
      refine pm_igd (σ1 := (46, [some (.ref 49), some (.long x3), none, some (.int x4), some (.int q7), none, none], [.long (M6.2 55 x4.toNatClampNeg)], M6)) rfl (fun _ => ?_)
      refine pm_irun 1 (σ' := (48, [some (.ref 49), some (.long x3), none, some (.int x4), some (.int q7), none, none], [.int q7, .long (M6.2 55 x4.toNatClampNeg)], M6)) rfl ?_
      refine pm_icI (as := [.long (M6.2 55 x4.toNatClampNeg), .int q7]) (rest := []) rfl rfl rfl rfl (Nat.le_of_ble_eq_true rfl) rfl (fun r h => pm_Ev_mono (Nat.le_of_ble_eq_true rfl) (sR_isProduct_ok (M6.2 55 x4.toNatClampNeg) q7 M6 r h)) (fun v9 M8 => ?_)
      show pm_Im _ _ _ _ _ _ (51, [some (.ref 49), some (.long x3), none, some (.int x4), some (.int q7), none, none], [.int v9], M8)
      refine pm_iite (σ1 := (58, [some (.ref 49), some (.long x3), none, some (.int x4), some (.int q7), none, none], [], M8)) (σ2 := (54, [some (.ref 49), some (.long x3), none, some (.int x4), some (.int q7), none, none], [], M8)) rfl (fun _ => ?_) (fun _ => ?_)
      · refine pm_irun 3 (σ' := (63, [some (.ref 49), some (.long x3), none, some (.int x4), some (.int q7), none, none], [.int x4, .ref 55], M8)) rfl ?_
        refine pm_igd (σ1 := (64, [some (.ref 49), some (.long x3), none, some (.int x4), some (.int q7), none, none], [.long (M8.2 55 x4.toNatClampNeg)], M8)) rfl (fun _ => ?_)
        refine pm_irun 4 (σ' := (70, [some (.ref 49), some (.long x3), none, some (.int x4), some (.int q7), some (.long ((M8.2 55 x4.toNatClampNeg) * q7.toInt64)), none], [], M8)) rfl ?_
        refine pm_ilt (fun y => (70, [some (.ref 49), some (.long x3), none, some (.int x4), some (.int q7), some (.long y), none], [], M8)) (fun x10 => ?_)
        refine pm_irun 3 (σ' := (74, [some (.ref 49), some (.long x3), none, some (.int x4), some (.int q7), some (.long x10), none], [.int (lg_cmp x10 (0 : Int64))], M8)) rfl ?_
        refine pm_ijn (fun (g : pm_M → Option (Int64 × pm_M)) => ∀ (M12 : pm_M), I_R_earned (g M12) (88, [some (.ref 49), some (.long x3), none, some (.int x4), none, some (.long x10), none], [], M12)) (fun (M12 : pm_M) => ?_) (fun j11 hj11 => ?_)
        · show I_R_earned _ (88, [some (.ref 49), some (.long x3), none, some (.int x4), none, some (.long x10), none], [], M12)
          refine pm_irun 3 (σ' := (92, [some (.ref 49), some (.long x3), none, some (.int x4), none, some (.long x10), none], [.int (lg_cmp x10 (0 : Int64))], M12)) rfl ?_
          refine pm_ijn (fun (g : pm_M → Option (Int64 × pm_M)) => ∀ (M14 : pm_M), I_R_earned (g M14) (110, [some (.ref 49), some (.long x3), none, some (.int x4), none, some (.long x10), none], [], M14)) (fun (M14 : pm_M) => ?_) (fun j13 hj13 => ?_)
          · show I_R_earned _ (110, [some (.ref 49), some (.long x3), none, some (.int x4), none, some (.long x10), none], [], M14)
            refine pm_irun 4 (σ' := (115, [some (.ref 49), some (.long (x3 + x10)), none, some (.int x4), none, some (.long x10), none], [], M14)) rfl ?_
            refine pm_ilt (fun y => (115, [some (.ref 49), some (.long y), none, some (.int x4), none, some (.long x10), none], [], M14)) (fun x15 => ?_)
            refine pm_irun 1 (σ' := (118, [some (.ref 49), some (.long x15), none, some (.int (x4 + (1 : Int32))), none, some (.long x10), none], [], M14)) rfl ?_
            refine pm_ilt (fun y => (118, [some (.ref 49), some (.long x15), none, some (.int y), none, some (.long x10), none], [], M14)) (fun x16 => ?_)
            refine pm_irun 1 (σ' := (4, [some (.ref 49), some (.long x15), none, some (.int x16), none, some (.long x10), none], [], M14)) rfl ?_
            refine pm_iwk (al' := [some (.ref 49), some (.long x15), none, some (.int x16), none, none, none]) (pm_wkS (pm_wkS (pm_wkS (pm_wkS (pm_wkS (pm_wkN (pm_wkS pm_wk0))))))) ?_
            exact hg1 _ _ _
          refine pm_iite (σ1 := (110, [some (.ref 49), some (.long x3), none, some (.int x4), none, some (.long x10), none], [], M12)) (σ2 := (95, [some (.ref 49), some (.long x3), none, some (.int x4), none, some (.long x10), none], [], M12)) rfl (fun _ => ?_) (fun _ => ?_)
          · exact hj13 _
          · refine pm_irun 5 (σ' := (103, [some (.ref 49), some (.long x3), none, some (.int x4), none, some (.long x10), none], [.int (lg_cmp x3 ((-9223372036854775808 : Int64) - x10))], M12)) rfl ?_
            refine pm_iite (σ1 := (110, [some (.ref 49), some (.long x3), none, some (.int x4), none, some (.long x10), none], [], M12)) (σ2 := (106, [some (.ref 49), some (.long x3), none, some (.int x4), none, some (.long x10), none], [], M12)) rfl (fun _ => ?_) (fun _ => ?_)
            · exact hj13 _
            · refine pm_irun 1 (σ' := (109, [some (.ref 49), some (.long x3), none, some (.int x4), none, some (.long x10), none], [.long (-4611686018427387904 : Int64)], M12)) rfl ?_
              exact pm_irL rfl rfl
        refine pm_iite (σ1 := (88, [some (.ref 49), some (.long x3), none, some (.int x4), some (.int q7), some (.long x10), none], [], M8)) (σ2 := (77, [some (.ref 49), some (.long x3), none, some (.int x4), some (.int q7), some (.long x10), none], [], M8)) rfl (fun _ => ?_) (fun _ => ?_)
        · refine pm_iwk (al' := [some (.ref 49), some (.long x3), none, some (.int x4), none, some (.long x10), none]) (pm_wkS (pm_wkS (pm_wkS (pm_wkS (pm_wkN (pm_wkS (pm_wkS pm_wk0))))))) ?_
          exact hj11 _
        · refine pm_irun 5 (σ' := (85, [some (.ref 49), some (.long x3), none, some (.int x4), some (.int q7), some (.long x10), none], [.int (lg_cmp x3 ((9223372036854775807 : Int64) - x10))], M8)) rfl ?_
          refine pm_iite (σ1 := (106, [some (.ref 49), some (.long x3), none, some (.int x4), some (.int q7), some (.long x10), none], [], M8)) (σ2 := (88, [some (.ref 49), some (.long x3), none, some (.int x4), some (.int q7), some (.long x10), none], [], M8)) rfl (fun _ => ?_) (fun _ => ?_)
          · refine pm_irun 1 (σ' := (109, [some (.ref 49), some (.long x3), none, some (.int x4), some (.int q7), some (.long x10), none], [.long (-4611686018427387904 : Int64)], M8)) rfl ?_
            exact pm_irL rfl rfl
          · refine pm_iwk (al' := [some (.ref 49), some (.long x3), none, some (.int x4), none, some (.long x10), none]) (pm_wkS (pm_wkS (pm_wkS (pm_wkS (pm_wkN (pm_wkS (pm_wkS pm_wk0))))))) ?_
            exact hj11 _
      · refine pm_irun 1 (σ' := (57, [some (.ref 49), some (.long x3), none, some (.int x4), some (.int q7), none, none], [.long (-4611686018427387904 : Int64)], M8)) rfl ?_
        exact pm_irL rfl rfl
    refine pm_iite (σ1 := (23, [some (.ref 49), some (.long x3), none, some (.int x4), none, none, none], [], M2)) (σ2 := (19, [some (.ref 49), some (.long x3), none, some (.int x4), none, none, none], [], M2)) rfl (fun _ => ?_) (fun _ => ?_)
    · refine pm_irun 8 (σ' := (35, [some (.ref 49), some (.long x3), none, some (.int x4), none, none, none], [.int x4, .ref 52, .int ((5 : Int32) * x4), .ref 69], M2)) rfl ?_
      refine pm_igd (σ1 := (36, [some (.ref 49), some (.long x3), none, some (.int x4), none, none, none], [.int (M2.1 52 x4.toNatClampNeg), .int ((5 : Int32) * x4), .ref 69], M2)) rfl (fun _ => ?_)
      refine pm_irun 1 (σ' := (37, [some (.ref 49), some (.long x3), none, some (.int x4), none, none, none], [.int (((5 : Int32) * x4) + (M2.1 52 x4.toNatClampNeg)), .ref 69], M2)) rfl ?_
      refine pm_igd (σ1 := (38, [some (.ref 49), some (.long x3), none, some (.int x4), none, none, none], [.int (M2.1 69 (((5 : Int32) * x4) + (M2.1 52 x4.toNatClampNeg)).toNatClampNeg)], M2)) rfl (fun _ => ?_)
      exact hj5 _ _
    · refine pm_irun 2 (σ' := (38, [some (.ref 49), some (.long x3), none, some (.int x4), none, none, none], [.int (0 : Int32)], M2)) rfl ?_
      exact hj5 _ _
def sC_seed (a1 : Int32) (M : pm_M) : Option (Int32 × pm_M) := pm_lt ((M.1 30 4)) fun x1 => pm_lt (pm_sI M 30 4 a1) fun M2 => some (x1, M2)
abbrev I_C_seed (sh : Option (Int32 × pm_M)) (σ : pm_St) : Prop := pm_Im none (pm_Ev 0) pm_T86 (some .int) pm_rI sh σ
set_option maxHeartbeats 4000000 in
set_option maxRecDepth 100000 in
theorem sC_seed_ok (a1 : Int32) (M : pm_M) : ∀ r, sC_seed a1 M = some r → pm_Ev 1 86 [.ref 0, .int a1] M (pm_rI r).1 (pm_rI r).2 := by
  refine pm_meth (al := [some (.ref 0), some (.int a1), none]) rfl rfl rfl rfl rfl ?_
  unfold sC_seed
  show I_C_seed _ (0, [some (.ref 0), some (.int a1), none], [], M)
  refine pm_irun 4 (σ' := (8, [some (.ref 0), some (.int a1), some (.int (M.1 30 4))], [], M)) rfl ?_
  refine pm_ilt (fun y => (8, [some (.ref 0), some (.int a1), some (.int y)], [], M)) (fun x1 => ?_)
  refine pm_irun 3 (σ' := (13, [some (.ref 0), some (.int a1), some (.int x1)], [.int a1, .ref 30], M)) rfl ?_
  refine pm_irun 1 (σ' := (16, [some (.ref 0), some (.int a1), some (.int x1)], [], (pm_sI M 30 4 a1))) rfl ?_
  refine pm_ilt (fun y => (16, [some (.ref 0), some (.int a1), some (.int x1)], [], y)) (fun M2 => ?_)
  refine pm_irun 1 (σ' := (17, [some (.ref 0), some (.int a1), some (.int x1)], [.int x1], M2)) rfl ?_
  exact pm_irI rfl rfl
def sR_seed (a1 : Int32) (M : pm_M) : Option (Int32 × pm_M) := pm_lt ((M.1 49 28)) fun x1 => pm_lt (pm_sI M 49 28 a1) fun M2 => some (x1, M2)
abbrev I_R_seed (sh : Option (Int32 × pm_M)) (σ : pm_St) : Prop := pm_Im none (pm_Ev 0) pm_T194 (some .int) pm_rI sh σ
set_option maxHeartbeats 4000000 in
set_option maxRecDepth 100000 in
theorem sR_seed_ok (a1 : Int32) (M : pm_M) : ∀ r, sR_seed a1 M = some r → pm_Ev 1 194 [.ref 49, .int a1] M (pm_rI r).1 (pm_rI r).2 := by
  refine pm_meth (al := [some (.ref 49), some (.int a1), none]) rfl rfl rfl rfl rfl ?_
  unfold sR_seed
  show I_R_seed _ (0, [some (.ref 49), some (.int a1), none], [], M)
  refine pm_irun 3 (σ' := (5, [some (.ref 49), some (.int a1), some (.int (M.1 49 28))], [], M)) rfl ?_
  refine pm_ilt (fun y => (5, [some (.ref 49), some (.int a1), some (.int y)], [], M)) (fun x1 => ?_)
  refine pm_irun 2 (σ' := (7, [some (.ref 49), some (.int a1), some (.int x1)], [.int a1, .ref 49], M)) rfl ?_
  refine pm_irun 1 (σ' := (10, [some (.ref 49), some (.int a1), some (.int x1)], [], (pm_sI M 49 28 a1))) rfl ?_
  refine pm_ilt (fun y => (10, [some (.ref 49), some (.int a1), some (.int x1)], [], y)) (fun M2 => ?_)
  refine pm_irun 1 (σ' := (11, [some (.ref 49), some (.int a1), some (.int x1)], [.int x1], M2)) rfl ?_
  exact pm_irI rfl rfl
def sNet_takeFrom_8_1  (M : pm_M) : Option (pm_M) := pm_lt (pm_sI M 8 0 ((M.1 1 0))) fun M1 => pm_lt (pm_cI M1 2 9 0 0 5) fun M2 => pm_lt (pm_cI M2 3 10 0 0 10) fun M3 => pm_lt (pm_cI M3 4 11 0 0 2) fun M4 => pm_lt (pm_cI M4 5 12 0 0 2) fun M5 => pm_lt (pm_cI M5 6 13 0 0 50) fun M6 => pm_lt (pm_cL M6 7 14 0 0 2) fun M7 => some M7
abbrev I_Net_takeFrom_8_1 (sh : Option (pm_M)) (σ : pm_St) : Prop := pm_Im none (pm_Ev 0) pm_T0 none pm_rV sh σ
set_option maxHeartbeats 4000000 in
set_option maxRecDepth 100000 in
theorem sNet_takeFrom_8_1_ok  (M : pm_M) : ∀ r, sNet_takeFrom_8_1  M = some r → pm_Ev 1 0 [.ref 8, .ref 1] M (pm_rV r).1 (pm_rV r).2 := by
  refine pm_meth (al := [some (.ref 8), some (.ref 1)]) rfl rfl rfl rfl rfl ?_
  unfold sNet_takeFrom_8_1
  show I_Net_takeFrom_8_1 _ (0, [some (.ref 8), some (.ref 1)], [], M)
  refine pm_irun 3 (σ' := (5, [some (.ref 8), some (.ref 1)], [.int (M.1 1 0), .ref 8], M)) rfl ?_
  refine pm_irun 1 (σ' := (8, [some (.ref 8), some (.ref 1)], [], (pm_sI M 8 0 ((M.1 1 0))))) rfl ?_
  refine pm_ilt (fun y => (8, [some (.ref 8), some (.ref 1)], [], y)) (fun M1 => ?_)
  refine pm_irun 8 (σ' := (22, [some (.ref 8), some (.ref 1)], [.ref 9, .int (0 : Int32), .ref 9, .int (0 : Int32), .ref 2], M1)) rfl ?_
  refine pm_irun 1 (σ' := (23, [some (.ref 8), some (.ref 1)], [.int (5 : Int32), .int (0 : Int32), .ref 9, .int (0 : Int32), .ref 2], M1)) rfl ?_
  refine pm_igt (c := ¬ (0 : Int32) < 0 ∧ ¬ (0 : Int32) < 0 ∧ ¬ (5 : Int32) < 0 ∧ 0 + 5 ≤ 5 ∧ 0 + 5 ≤ 5 ∧ (([] : List Value).map fun v => v.category).sum ≤ 8) (σ1 := (26, [some (.ref 8), some (.ref 1)], [], (pm_cI M1 2 9 0 0 5))) (by decide) rfl ?_
  refine pm_ilt (fun y => (26, [some (.ref 8), some (.ref 1)], [], y)) (fun M2 => ?_)
  refine pm_irun 8 (σ' := (40, [some (.ref 8), some (.ref 1)], [.ref 10, .int (0 : Int32), .ref 10, .int (0 : Int32), .ref 3], M2)) rfl ?_
  refine pm_irun 1 (σ' := (41, [some (.ref 8), some (.ref 1)], [.int (10 : Int32), .int (0 : Int32), .ref 10, .int (0 : Int32), .ref 3], M2)) rfl ?_
  refine pm_igt (c := ¬ (0 : Int32) < 0 ∧ ¬ (0 : Int32) < 0 ∧ ¬ (10 : Int32) < 0 ∧ 0 + 10 ≤ 10 ∧ 0 + 10 ≤ 10 ∧ (([] : List Value).map fun v => v.category).sum ≤ 8) (σ1 := (44, [some (.ref 8), some (.ref 1)], [], (pm_cI M2 3 10 0 0 10))) (by decide) rfl ?_
  refine pm_ilt (fun y => (44, [some (.ref 8), some (.ref 1)], [], y)) (fun M3 => ?_)
  refine pm_irun 8 (σ' := (58, [some (.ref 8), some (.ref 1)], [.ref 11, .int (0 : Int32), .ref 11, .int (0 : Int32), .ref 4], M3)) rfl ?_
  refine pm_irun 1 (σ' := (59, [some (.ref 8), some (.ref 1)], [.int (2 : Int32), .int (0 : Int32), .ref 11, .int (0 : Int32), .ref 4], M3)) rfl ?_
  refine pm_igt (c := ¬ (0 : Int32) < 0 ∧ ¬ (0 : Int32) < 0 ∧ ¬ (2 : Int32) < 0 ∧ 0 + 2 ≤ 2 ∧ 0 + 2 ≤ 2 ∧ (([] : List Value).map fun v => v.category).sum ≤ 8) (σ1 := (62, [some (.ref 8), some (.ref 1)], [], (pm_cI M3 4 11 0 0 2))) (by decide) rfl ?_
  refine pm_ilt (fun y => (62, [some (.ref 8), some (.ref 1)], [], y)) (fun M4 => ?_)
  refine pm_irun 8 (σ' := (76, [some (.ref 8), some (.ref 1)], [.ref 12, .int (0 : Int32), .ref 12, .int (0 : Int32), .ref 5], M4)) rfl ?_
  refine pm_irun 1 (σ' := (77, [some (.ref 8), some (.ref 1)], [.int (2 : Int32), .int (0 : Int32), .ref 12, .int (0 : Int32), .ref 5], M4)) rfl ?_
  refine pm_igt (c := ¬ (0 : Int32) < 0 ∧ ¬ (0 : Int32) < 0 ∧ ¬ (2 : Int32) < 0 ∧ 0 + 2 ≤ 2 ∧ 0 + 2 ≤ 2 ∧ (([] : List Value).map fun v => v.category).sum ≤ 8) (σ1 := (80, [some (.ref 8), some (.ref 1)], [], (pm_cI M4 5 12 0 0 2))) (by decide) rfl ?_
  refine pm_ilt (fun y => (80, [some (.ref 8), some (.ref 1)], [], y)) (fun M5 => ?_)
  refine pm_irun 8 (σ' := (94, [some (.ref 8), some (.ref 1)], [.ref 13, .int (0 : Int32), .ref 13, .int (0 : Int32), .ref 6], M5)) rfl ?_
  refine pm_irun 1 (σ' := (95, [some (.ref 8), some (.ref 1)], [.int (50 : Int32), .int (0 : Int32), .ref 13, .int (0 : Int32), .ref 6], M5)) rfl ?_
  refine pm_igt (c := ¬ (0 : Int32) < 0 ∧ ¬ (0 : Int32) < 0 ∧ ¬ (50 : Int32) < 0 ∧ 0 + 50 ≤ 50 ∧ 0 + 50 ≤ 50 ∧ (([] : List Value).map fun v => v.category).sum ≤ 8) (σ1 := (98, [some (.ref 8), some (.ref 1)], [], (pm_cI M5 6 13 0 0 50))) (by decide) rfl ?_
  refine pm_ilt (fun y => (98, [some (.ref 8), some (.ref 1)], [], y)) (fun M6 => ?_)
  refine pm_irun 8 (σ' := (112, [some (.ref 8), some (.ref 1)], [.ref 14, .int (0 : Int32), .ref 14, .int (0 : Int32), .ref 7], M6)) rfl ?_
  refine pm_irun 1 (σ' := (113, [some (.ref 8), some (.ref 1)], [.int (2 : Int32), .int (0 : Int32), .ref 14, .int (0 : Int32), .ref 7], M6)) rfl ?_
  refine pm_igt (c := ¬ (0 : Int32) < 0 ∧ ¬ (0 : Int32) < 0 ∧ ¬ (2 : Int32) < 0 ∧ 0 + 2 ≤ 2 ∧ 0 + 2 ≤ 2 ∧ (([] : List Value).map fun v => v.category).sum ≤ 8) (σ1 := (116, [some (.ref 8), some (.ref 1)], [], (pm_cL M6 7 14 0 0 2))) (by decide) rfl ?_
  refine pm_ilt (fun y => (116, [some (.ref 8), some (.ref 1)], [], y)) (fun M7 => ?_)
  exact pm_irV rfl rfl
def sC_image  (M : pm_M) : Option (Int32 × pm_M) := pm_bv (sNet_takeFrom_8_1 M) fun M1 => pm_lt (pm_sI M1 0 2 (1 : Int32)) fun M2 => some ((M2.1 1 0), M2)
abbrev I_C_image (sh : Option (Int32 × pm_M)) (σ : pm_St) : Prop := pm_Im none (pm_Ev 1) pm_T87 (some .int) pm_rI sh σ
set_option maxHeartbeats 4000000 in
set_option maxRecDepth 100000 in
theorem sC_image_ok  (M : pm_M) : ∀ r, sC_image  M = some r → pm_Ev 2 87 [.ref 0] M (pm_rI r).1 (pm_rI r).2 := by
  refine pm_meth (al := [some (.ref 0)]) rfl rfl rfl rfl rfl ?_
  unfold sC_image
  show I_C_image _ (0, [some (.ref 0)], [], M)
  refine pm_irun 4 (σ' := (8, [some (.ref 0)], [.ref 1, .ref 8], M)) rfl ?_
  refine pm_icV (as := [.ref 8, .ref 1]) (rest := []) rfl rfl rfl rfl (Nat.le_of_ble_eq_true rfl) rfl (fun r h => pm_Ev_mono (Nat.le_of_ble_eq_true rfl) (sNet_takeFrom_8_1_ok M r h)) (fun M1 => ?_)
  show pm_Im _ _ _ _ _ _ (11, [some (.ref 0)], [], M1)
  refine pm_irun 2 (σ' := (13, [some (.ref 0)], [.int (1 : Int32), .ref 0], M1)) rfl ?_
  refine pm_igt (c := (1 : Int32) = 0 ∨ (1 : Int32) = 1) (σ1 := (16, [some (.ref 0)], [], (pm_sI M1 0 2 (1 : Int32)))) (by decide) rfl ?_
  refine pm_ilt (fun y => (16, [some (.ref 0)], [], y)) (fun M2 => ?_)
  refine pm_irun 3 (σ' := (23, [some (.ref 0)], [.int (M2.1 1 0)], M2)) rfl ?_
  exact pm_irI rfl rfl
def sR_copies_50_72 (a3 : Int32) (M : pm_M) : Option (pm_M) := pm_loop (fun _ _ => none) (fun (g1 : Int32 → pm_M → Option (pm_M)) x3 M2 => if a3 ≤ x3 then (some M2) else (if pm_in x3 5 then (if pm_in x3 5 then (pm_lt (pm_sI M2 72 x3.toNatClampNeg ((M2.1 50 x3.toNatClampNeg))) fun M4 => pm_lt ((x3 + (1 : Int32))) fun x5 => g1 x5 M4) else none) else none)) 1000000 (0 : Int32) M
abbrev I_R_copies_50_72 (sh : Option (pm_M)) (σ : pm_St) : Prop := pm_Im none (pm_Ev 0) pm_T195 none pm_rV sh σ
set_option maxHeartbeats 4000000 in
set_option maxRecDepth 100000 in
theorem sR_copies_50_72_ok (a3 : Int32) (M : pm_M) : ∀ r, sR_copies_50_72 a3 M = some r → pm_Ev 1 195 [.ref 50, .ref 72, .int a3] M (pm_rV r).1 (pm_rV r).2 := by
  refine pm_meth (al := [some (.ref 50), some (.ref 72), some (.int a3), none]) rfl rfl rfl rfl rfl ?_
  unfold sR_copies_50_72
  show I_R_copies_50_72 _ (0, [some (.ref 50), some (.ref 72), some (.int a3), none], [], M)
  refine pm_irun 2 (σ' := (2, [some (.ref 50), some (.ref 72), some (.int a3), some (.int (0 : Int32))], [], M)) rfl ?_
  refine pm_iloop (fun (g : Int32 → pm_M → Option (pm_M)) => ∀ (x3 : Int32) (M2 : pm_M), I_R_copies_50_72 (g x3 M2) (2, [some (.ref 50), some (.ref 72), some (.int a3), some (.int x3)], [], M2)) (fun _ _ => pm_inone) (fun g1 hg1 x3 M2 => ?_) 1000000 _ _
  show I_R_copies_50_72 _ (2, [some (.ref 50), some (.ref 72), some (.int a3), some (.int x3)], [], M2)
  refine pm_irun 2 (σ' := (4, [some (.ref 50), some (.ref 72), some (.int a3), some (.int x3)], [.int a3, .int x3], M2)) rfl ?_
  refine pm_iite (σ1 := (19, [some (.ref 50), some (.ref 72), some (.int a3), some (.int x3)], [], M2)) (σ2 := (7, [some (.ref 50), some (.ref 72), some (.int a3), some (.int x3)], [], M2)) rfl (fun _ => ?_) (fun _ => ?_)
  · exact pm_irV rfl rfl
  · refine pm_irun 4 (σ' := (11, [some (.ref 50), some (.ref 72), some (.int a3), some (.int x3)], [.int x3, .ref 50, .int x3, .ref 72], M2)) rfl ?_
    refine pm_igd (σ1 := (12, [some (.ref 50), some (.ref 72), some (.int a3), some (.int x3)], [.int (M2.1 50 x3.toNatClampNeg), .int x3, .ref 72], M2)) rfl (fun _ => ?_)
    refine pm_igd (σ1 := (13, [some (.ref 50), some (.ref 72), some (.int a3), some (.int x3)], [], (pm_sI M2 72 x3.toNatClampNeg ((M2.1 50 x3.toNatClampNeg))))) rfl (fun _ => ?_)
    refine pm_ilt (fun y => (13, [some (.ref 50), some (.ref 72), some (.int a3), some (.int x3)], [], y)) (fun M4 => ?_)
    refine pm_irun 1 (σ' := (16, [some (.ref 50), some (.ref 72), some (.int a3), some (.int (x3 + (1 : Int32)))], [], M4)) rfl ?_
    refine pm_ilt (fun y => (16, [some (.ref 50), some (.ref 72), some (.int a3), some (.int y)], [], M4)) (fun x5 => ?_)
    refine pm_irun 1 (σ' := (2, [some (.ref 50), some (.ref 72), some (.int a3), some (.int x5)], [], M4)) rfl ?_
    exact hg1 _ _
def sR_copies_51_73 (a3 : Int32) (M : pm_M) : Option (pm_M) := pm_loop (fun _ _ => none) (fun (g1 : Int32 → pm_M → Option (pm_M)) x3 M2 => if a3 ≤ x3 then (some M2) else (if pm_in x3 10 then (if pm_in x3 10 then (pm_lt (pm_sI M2 73 x3.toNatClampNeg ((M2.1 51 x3.toNatClampNeg))) fun M4 => pm_lt ((x3 + (1 : Int32))) fun x5 => g1 x5 M4) else none) else none)) 1000000 (0 : Int32) M
abbrev I_R_copies_51_73 (sh : Option (pm_M)) (σ : pm_St) : Prop := pm_Im none (pm_Ev 0) pm_T195 none pm_rV sh σ
set_option maxHeartbeats 4000000 in
set_option maxRecDepth 100000 in
theorem sR_copies_51_73_ok (a3 : Int32) (M : pm_M) : ∀ r, sR_copies_51_73 a3 M = some r → pm_Ev 1 195 [.ref 51, .ref 73, .int a3] M (pm_rV r).1 (pm_rV r).2 := by
  refine pm_meth (al := [some (.ref 51), some (.ref 73), some (.int a3), none]) rfl rfl rfl rfl rfl ?_
  unfold sR_copies_51_73
  show I_R_copies_51_73 _ (0, [some (.ref 51), some (.ref 73), some (.int a3), none], [], M)
  refine pm_irun 2 (σ' := (2, [some (.ref 51), some (.ref 73), some (.int a3), some (.int (0 : Int32))], [], M)) rfl ?_
  refine pm_iloop (fun (g : Int32 → pm_M → Option (pm_M)) => ∀ (x3 : Int32) (M2 : pm_M), I_R_copies_51_73 (g x3 M2) (2, [some (.ref 51), some (.ref 73), some (.int a3), some (.int x3)], [], M2)) (fun _ _ => pm_inone) (fun g1 hg1 x3 M2 => ?_) 1000000 _ _
  show I_R_copies_51_73 _ (2, [some (.ref 51), some (.ref 73), some (.int a3), some (.int x3)], [], M2)
  refine pm_irun 2 (σ' := (4, [some (.ref 51), some (.ref 73), some (.int a3), some (.int x3)], [.int a3, .int x3], M2)) rfl ?_
  refine pm_iite (σ1 := (19, [some (.ref 51), some (.ref 73), some (.int a3), some (.int x3)], [], M2)) (σ2 := (7, [some (.ref 51), some (.ref 73), some (.int a3), some (.int x3)], [], M2)) rfl (fun _ => ?_) (fun _ => ?_)
  · exact pm_irV rfl rfl
  · refine pm_irun 4 (σ' := (11, [some (.ref 51), some (.ref 73), some (.int a3), some (.int x3)], [.int x3, .ref 51, .int x3, .ref 73], M2)) rfl ?_
    refine pm_igd (σ1 := (12, [some (.ref 51), some (.ref 73), some (.int a3), some (.int x3)], [.int (M2.1 51 x3.toNatClampNeg), .int x3, .ref 73], M2)) rfl (fun _ => ?_)
    refine pm_igd (σ1 := (13, [some (.ref 51), some (.ref 73), some (.int a3), some (.int x3)], [], (pm_sI M2 73 x3.toNatClampNeg ((M2.1 51 x3.toNatClampNeg))))) rfl (fun _ => ?_)
    refine pm_ilt (fun y => (13, [some (.ref 51), some (.ref 73), some (.int a3), some (.int x3)], [], y)) (fun M4 => ?_)
    refine pm_irun 1 (σ' := (16, [some (.ref 51), some (.ref 73), some (.int a3), some (.int (x3 + (1 : Int32)))], [], M4)) rfl ?_
    refine pm_ilt (fun y => (16, [some (.ref 51), some (.ref 73), some (.int a3), some (.int y)], [], M4)) (fun x5 => ?_)
    refine pm_irun 1 (σ' := (2, [some (.ref 51), some (.ref 73), some (.int a3), some (.int x5)], [], M4)) rfl ?_
    exact hg1 _ _
def sR_copies_52_74 (a3 : Int32) (M : pm_M) : Option (pm_M) := pm_loop (fun _ _ => none) (fun (g1 : Int32 → pm_M → Option (pm_M)) x3 M2 => if a3 ≤ x3 then (some M2) else (if pm_in x3 2 then (if pm_in x3 2 then (pm_lt (pm_sI M2 74 x3.toNatClampNeg ((M2.1 52 x3.toNatClampNeg))) fun M4 => pm_lt ((x3 + (1 : Int32))) fun x5 => g1 x5 M4) else none) else none)) 1000000 (0 : Int32) M
abbrev I_R_copies_52_74 (sh : Option (pm_M)) (σ : pm_St) : Prop := pm_Im none (pm_Ev 0) pm_T195 none pm_rV sh σ
set_option maxHeartbeats 4000000 in
set_option maxRecDepth 100000 in
theorem sR_copies_52_74_ok (a3 : Int32) (M : pm_M) : ∀ r, sR_copies_52_74 a3 M = some r → pm_Ev 1 195 [.ref 52, .ref 74, .int a3] M (pm_rV r).1 (pm_rV r).2 := by
  refine pm_meth (al := [some (.ref 52), some (.ref 74), some (.int a3), none]) rfl rfl rfl rfl rfl ?_
  unfold sR_copies_52_74
  show I_R_copies_52_74 _ (0, [some (.ref 52), some (.ref 74), some (.int a3), none], [], M)
  refine pm_irun 2 (σ' := (2, [some (.ref 52), some (.ref 74), some (.int a3), some (.int (0 : Int32))], [], M)) rfl ?_
  refine pm_iloop (fun (g : Int32 → pm_M → Option (pm_M)) => ∀ (x3 : Int32) (M2 : pm_M), I_R_copies_52_74 (g x3 M2) (2, [some (.ref 52), some (.ref 74), some (.int a3), some (.int x3)], [], M2)) (fun _ _ => pm_inone) (fun g1 hg1 x3 M2 => ?_) 1000000 _ _
  show I_R_copies_52_74 _ (2, [some (.ref 52), some (.ref 74), some (.int a3), some (.int x3)], [], M2)
  refine pm_irun 2 (σ' := (4, [some (.ref 52), some (.ref 74), some (.int a3), some (.int x3)], [.int a3, .int x3], M2)) rfl ?_
  refine pm_iite (σ1 := (19, [some (.ref 52), some (.ref 74), some (.int a3), some (.int x3)], [], M2)) (σ2 := (7, [some (.ref 52), some (.ref 74), some (.int a3), some (.int x3)], [], M2)) rfl (fun _ => ?_) (fun _ => ?_)
  · exact pm_irV rfl rfl
  · refine pm_irun 4 (σ' := (11, [some (.ref 52), some (.ref 74), some (.int a3), some (.int x3)], [.int x3, .ref 52, .int x3, .ref 74], M2)) rfl ?_
    refine pm_igd (σ1 := (12, [some (.ref 52), some (.ref 74), some (.int a3), some (.int x3)], [.int (M2.1 52 x3.toNatClampNeg), .int x3, .ref 74], M2)) rfl (fun _ => ?_)
    refine pm_igd (σ1 := (13, [some (.ref 52), some (.ref 74), some (.int a3), some (.int x3)], [], (pm_sI M2 74 x3.toNatClampNeg ((M2.1 52 x3.toNatClampNeg))))) rfl (fun _ => ?_)
    refine pm_ilt (fun y => (13, [some (.ref 52), some (.ref 74), some (.int a3), some (.int x3)], [], y)) (fun M4 => ?_)
    refine pm_irun 1 (σ' := (16, [some (.ref 52), some (.ref 74), some (.int a3), some (.int (x3 + (1 : Int32)))], [], M4)) rfl ?_
    refine pm_ilt (fun y => (16, [some (.ref 52), some (.ref 74), some (.int a3), some (.int y)], [], M4)) (fun x5 => ?_)
    refine pm_irun 1 (σ' := (2, [some (.ref 52), some (.ref 74), some (.int a3), some (.int x5)], [], M4)) rfl ?_
    exact hg1 _ _
def sR_copies_53_75 (a3 : Int32) (M : pm_M) : Option (pm_M) := pm_loop (fun _ _ => none) (fun (g1 : Int32 → pm_M → Option (pm_M)) x3 M2 => if a3 ≤ x3 then (some M2) else (if pm_in x3 2 then (if pm_in x3 2 then (pm_lt (pm_sI M2 75 x3.toNatClampNeg ((M2.1 53 x3.toNatClampNeg))) fun M4 => pm_lt ((x3 + (1 : Int32))) fun x5 => g1 x5 M4) else none) else none)) 1000000 (0 : Int32) M
abbrev I_R_copies_53_75 (sh : Option (pm_M)) (σ : pm_St) : Prop := pm_Im none (pm_Ev 0) pm_T195 none pm_rV sh σ
set_option maxHeartbeats 4000000 in
set_option maxRecDepth 100000 in
theorem sR_copies_53_75_ok (a3 : Int32) (M : pm_M) : ∀ r, sR_copies_53_75 a3 M = some r → pm_Ev 1 195 [.ref 53, .ref 75, .int a3] M (pm_rV r).1 (pm_rV r).2 := by
  refine pm_meth (al := [some (.ref 53), some (.ref 75), some (.int a3), none]) rfl rfl rfl rfl rfl ?_
  unfold sR_copies_53_75
  show I_R_copies_53_75 _ (0, [some (.ref 53), some (.ref 75), some (.int a3), none], [], M)
  refine pm_irun 2 (σ' := (2, [some (.ref 53), some (.ref 75), some (.int a3), some (.int (0 : Int32))], [], M)) rfl ?_
  refine pm_iloop (fun (g : Int32 → pm_M → Option (pm_M)) => ∀ (x3 : Int32) (M2 : pm_M), I_R_copies_53_75 (g x3 M2) (2, [some (.ref 53), some (.ref 75), some (.int a3), some (.int x3)], [], M2)) (fun _ _ => pm_inone) (fun g1 hg1 x3 M2 => ?_) 1000000 _ _
  show I_R_copies_53_75 _ (2, [some (.ref 53), some (.ref 75), some (.int a3), some (.int x3)], [], M2)
  refine pm_irun 2 (σ' := (4, [some (.ref 53), some (.ref 75), some (.int a3), some (.int x3)], [.int a3, .int x3], M2)) rfl ?_
  refine pm_iite (σ1 := (19, [some (.ref 53), some (.ref 75), some (.int a3), some (.int x3)], [], M2)) (σ2 := (7, [some (.ref 53), some (.ref 75), some (.int a3), some (.int x3)], [], M2)) rfl (fun _ => ?_) (fun _ => ?_)
  · exact pm_irV rfl rfl
  · refine pm_irun 4 (σ' := (11, [some (.ref 53), some (.ref 75), some (.int a3), some (.int x3)], [.int x3, .ref 53, .int x3, .ref 75], M2)) rfl ?_
    refine pm_igd (σ1 := (12, [some (.ref 53), some (.ref 75), some (.int a3), some (.int x3)], [.int (M2.1 53 x3.toNatClampNeg), .int x3, .ref 75], M2)) rfl (fun _ => ?_)
    refine pm_igd (σ1 := (13, [some (.ref 53), some (.ref 75), some (.int a3), some (.int x3)], [], (pm_sI M2 75 x3.toNatClampNeg ((M2.1 53 x3.toNatClampNeg))))) rfl (fun _ => ?_)
    refine pm_ilt (fun y => (13, [some (.ref 53), some (.ref 75), some (.int a3), some (.int x3)], [], y)) (fun M4 => ?_)
    refine pm_irun 1 (σ' := (16, [some (.ref 53), some (.ref 75), some (.int a3), some (.int (x3 + (1 : Int32)))], [], M4)) rfl ?_
    refine pm_ilt (fun y => (16, [some (.ref 53), some (.ref 75), some (.int a3), some (.int y)], [], M4)) (fun x5 => ?_)
    refine pm_irun 1 (σ' := (2, [some (.ref 53), some (.ref 75), some (.int a3), some (.int x5)], [], M4)) rfl ?_
    exact hg1 _ _
def sR_copies_54_76 (a3 : Int32) (M : pm_M) : Option (pm_M) := pm_loop (fun _ _ => none) (fun (g1 : Int32 → pm_M → Option (pm_M)) x3 M2 => if a3 ≤ x3 then (some M2) else (if pm_in x3 50 then (if pm_in x3 50 then (pm_lt (pm_sI M2 76 x3.toNatClampNeg ((M2.1 54 x3.toNatClampNeg))) fun M4 => pm_lt ((x3 + (1 : Int32))) fun x5 => g1 x5 M4) else none) else none)) 1000000 (0 : Int32) M
abbrev I_R_copies_54_76 (sh : Option (pm_M)) (σ : pm_St) : Prop := pm_Im none (pm_Ev 0) pm_T195 none pm_rV sh σ
set_option maxHeartbeats 4000000 in
set_option maxRecDepth 100000 in
theorem sR_copies_54_76_ok (a3 : Int32) (M : pm_M) : ∀ r, sR_copies_54_76 a3 M = some r → pm_Ev 1 195 [.ref 54, .ref 76, .int a3] M (pm_rV r).1 (pm_rV r).2 := by
  refine pm_meth (al := [some (.ref 54), some (.ref 76), some (.int a3), none]) rfl rfl rfl rfl rfl ?_
  unfold sR_copies_54_76
  show I_R_copies_54_76 _ (0, [some (.ref 54), some (.ref 76), some (.int a3), none], [], M)
  refine pm_irun 2 (σ' := (2, [some (.ref 54), some (.ref 76), some (.int a3), some (.int (0 : Int32))], [], M)) rfl ?_
  refine pm_iloop (fun (g : Int32 → pm_M → Option (pm_M)) => ∀ (x3 : Int32) (M2 : pm_M), I_R_copies_54_76 (g x3 M2) (2, [some (.ref 54), some (.ref 76), some (.int a3), some (.int x3)], [], M2)) (fun _ _ => pm_inone) (fun g1 hg1 x3 M2 => ?_) 1000000 _ _
  show I_R_copies_54_76 _ (2, [some (.ref 54), some (.ref 76), some (.int a3), some (.int x3)], [], M2)
  refine pm_irun 2 (σ' := (4, [some (.ref 54), some (.ref 76), some (.int a3), some (.int x3)], [.int a3, .int x3], M2)) rfl ?_
  refine pm_iite (σ1 := (19, [some (.ref 54), some (.ref 76), some (.int a3), some (.int x3)], [], M2)) (σ2 := (7, [some (.ref 54), some (.ref 76), some (.int a3), some (.int x3)], [], M2)) rfl (fun _ => ?_) (fun _ => ?_)
  · exact pm_irV rfl rfl
  · refine pm_irun 4 (σ' := (11, [some (.ref 54), some (.ref 76), some (.int a3), some (.int x3)], [.int x3, .ref 54, .int x3, .ref 76], M2)) rfl ?_
    refine pm_igd (σ1 := (12, [some (.ref 54), some (.ref 76), some (.int a3), some (.int x3)], [.int (M2.1 54 x3.toNatClampNeg), .int x3, .ref 76], M2)) rfl (fun _ => ?_)
    refine pm_igd (σ1 := (13, [some (.ref 54), some (.ref 76), some (.int a3), some (.int x3)], [], (pm_sI M2 76 x3.toNatClampNeg ((M2.1 54 x3.toNatClampNeg))))) rfl (fun _ => ?_)
    refine pm_ilt (fun y => (13, [some (.ref 54), some (.ref 76), some (.int a3), some (.int x3)], [], y)) (fun M4 => ?_)
    refine pm_irun 1 (σ' := (16, [some (.ref 54), some (.ref 76), some (.int a3), some (.int (x3 + (1 : Int32)))], [], M4)) rfl ?_
    refine pm_ilt (fun y => (16, [some (.ref 54), some (.ref 76), some (.int a3), some (.int y)], [], M4)) (fun x5 => ?_)
    refine pm_irun 1 (σ' := (2, [some (.ref 54), some (.ref 76), some (.int a3), some (.int x5)], [], M4)) rfl ?_
    exact hg1 _ _
def sR_image  (M : pm_M) : Option (Int32 × pm_M) := pm_lt (pm_sI M 49 32 ((M.1 49 1))) fun M1 => pm_bv (sR_copies_50_72 (5 : Int32) M1) fun M2 => pm_bv (sR_copies_51_73 (10 : Int32) M2) fun M3 => pm_bv (sR_copies_52_74 (2 : Int32) M3) fun M4 => pm_bv (sR_copies_53_75 (2 : Int32) M4) fun M5 => pm_bv (sR_copies_54_76 (50 : Int32) M5) fun M6 => pm_lt (pm_sL M6 77 0 ((M6.2 55 0))) fun M7 => pm_lt (pm_sL M7 77 1 ((M7.2 55 1))) fun M8 => some ((M8.1 49 1), M8)
abbrev I_R_image (sh : Option (Int32 × pm_M)) (σ : pm_St) : Prop := pm_Im none (pm_Ev 1) pm_T196 (some .int) pm_rI sh σ
set_option maxHeartbeats 4000000 in
set_option maxRecDepth 100000 in
theorem sR_image_ok  (M : pm_M) : ∀ r, sR_image  M = some r → pm_Ev 2 196 [.ref 49] M (pm_rI r).1 (pm_rI r).2 := by
  refine pm_meth (al := [some (.ref 49)]) rfl rfl rfl rfl rfl ?_
  unfold sR_image
  show I_R_image _ (0, [some (.ref 49)], [], M)
  refine pm_irun 3 (σ' := (5, [some (.ref 49)], [.int (M.1 49 1), .ref 49], M)) rfl ?_
  refine pm_irun 1 (σ' := (8, [some (.ref 49)], [], (pm_sI M 49 32 ((M.1 49 1))))) rfl ?_
  refine pm_ilt (fun y => (8, [some (.ref 49)], [], y)) (fun M1 => ?_)
  refine pm_irun 5 (σ' := (17, [some (.ref 49)], [.int (5 : Int32), .ref 72, .ref 50], M1)) rfl ?_
  refine pm_icV (as := [.ref 50, .ref 72, .int (5 : Int32)]) (rest := []) rfl rfl rfl rfl (Nat.le_of_ble_eq_true rfl) rfl (fun r h => pm_Ev_mono (Nat.le_of_ble_eq_true rfl) (sR_copies_50_72_ok (5 : Int32) M1 r h)) (fun M2 => ?_)
  show pm_Im _ _ _ _ _ _ (20, [some (.ref 49)], [], M2)
  refine pm_irun 5 (σ' := (30, [some (.ref 49)], [.int (10 : Int32), .ref 73, .ref 51], M2)) rfl ?_
  refine pm_icV (as := [.ref 51, .ref 73, .int (10 : Int32)]) (rest := []) rfl rfl rfl rfl (Nat.le_of_ble_eq_true rfl) rfl (fun r h => pm_Ev_mono (Nat.le_of_ble_eq_true rfl) (sR_copies_51_73_ok (10 : Int32) M2 r h)) (fun M3 => ?_)
  show pm_Im _ _ _ _ _ _ (33, [some (.ref 49)], [], M3)
  refine pm_irun 5 (σ' := (42, [some (.ref 49)], [.int (2 : Int32), .ref 74, .ref 52], M3)) rfl ?_
  refine pm_icV (as := [.ref 52, .ref 74, .int (2 : Int32)]) (rest := []) rfl rfl rfl rfl (Nat.le_of_ble_eq_true rfl) rfl (fun r h => pm_Ev_mono (Nat.le_of_ble_eq_true rfl) (sR_copies_52_74_ok (2 : Int32) M3 r h)) (fun M4 => ?_)
  show pm_Im _ _ _ _ _ _ (45, [some (.ref 49)], [], M4)
  refine pm_irun 5 (σ' := (54, [some (.ref 49)], [.int (2 : Int32), .ref 75, .ref 53], M4)) rfl ?_
  refine pm_icV (as := [.ref 53, .ref 75, .int (2 : Int32)]) (rest := []) rfl rfl rfl rfl (Nat.le_of_ble_eq_true rfl) rfl (fun r h => pm_Ev_mono (Nat.le_of_ble_eq_true rfl) (sR_copies_53_75_ok (2 : Int32) M4 r h)) (fun M5 => ?_)
  show pm_Im _ _ _ _ _ _ (57, [some (.ref 49)], [], M5)
  refine pm_irun 5 (σ' := (67, [some (.ref 49)], [.int (50 : Int32), .ref 76, .ref 54], M5)) rfl ?_
  refine pm_icV (as := [.ref 54, .ref 76, .int (50 : Int32)]) (rest := []) rfl rfl rfl rfl (Nat.le_of_ble_eq_true rfl) rfl (fun r h => pm_Ev_mono (Nat.le_of_ble_eq_true rfl) (sR_copies_54_76_ok (50 : Int32) M5 r h)) (fun M6 => ?_)
  show pm_Im _ _ _ _ _ _ (70, [some (.ref 49)], [], M6)
  refine pm_irun 6 (σ' := (80, [some (.ref 49)], [.int (0 : Int32), .ref 55, .int (0 : Int32), .ref 77], M6)) rfl ?_
  refine pm_igt (c := pm_in (0 : Int32) 2) (σ1 := (81, [some (.ref 49)], [.long (M6.2 55 0), .int (0 : Int32), .ref 77], M6)) (by decide) rfl ?_
  refine pm_igt (c := pm_in (0 : Int32) 2) (σ1 := (82, [some (.ref 49)], [], (pm_sL M6 77 0 ((M6.2 55 0))))) (by decide) rfl ?_
  refine pm_ilt (fun y => (82, [some (.ref 49)], [], y)) (fun M7 => ?_)
  refine pm_irun 6 (σ' := (92, [some (.ref 49)], [.int (1 : Int32), .ref 55, .int (1 : Int32), .ref 77], M7)) rfl ?_
  refine pm_igt (c := pm_in (1 : Int32) 2) (σ1 := (93, [some (.ref 49)], [.long (M7.2 55 1), .int (1 : Int32), .ref 77], M7)) (by decide) rfl ?_
  refine pm_igt (c := pm_in (1 : Int32) 2) (σ1 := (94, [some (.ref 49)], [], (pm_sL M7 77 1 ((M7.2 55 1))))) (by decide) rfl ?_
  refine pm_ilt (fun y => (94, [some (.ref 49)], [], y)) (fun M8 => ?_)
  refine pm_irun 2 (σ' := (98, [some (.ref 49)], [.int (M8.1 49 1)], M8)) rfl ?_
  exact pm_irI rfl rfl
def sNet_takeFrom_1_8  (M : pm_M) : Option (pm_M) := pm_lt (pm_sI M 1 0 ((M.1 8 0))) fun M1 => pm_lt (pm_cI M1 9 2 0 0 5) fun M2 => pm_lt (pm_cI M2 10 3 0 0 10) fun M3 => pm_lt (pm_cI M3 11 4 0 0 2) fun M4 => pm_lt (pm_cI M4 12 5 0 0 2) fun M5 => pm_lt (pm_cI M5 13 6 0 0 50) fun M6 => pm_lt (pm_cL M6 14 7 0 0 2) fun M7 => some M7
abbrev I_Net_takeFrom_1_8 (sh : Option (pm_M)) (σ : pm_St) : Prop := pm_Im none (pm_Ev 0) pm_T0 none pm_rV sh σ
set_option maxHeartbeats 4000000 in
set_option maxRecDepth 100000 in
theorem sNet_takeFrom_1_8_ok  (M : pm_M) : ∀ r, sNet_takeFrom_1_8  M = some r → pm_Ev 1 0 [.ref 1, .ref 8] M (pm_rV r).1 (pm_rV r).2 := by
  refine pm_meth (al := [some (.ref 1), some (.ref 8)]) rfl rfl rfl rfl rfl ?_
  unfold sNet_takeFrom_1_8
  show I_Net_takeFrom_1_8 _ (0, [some (.ref 1), some (.ref 8)], [], M)
  refine pm_irun 3 (σ' := (5, [some (.ref 1), some (.ref 8)], [.int (M.1 8 0), .ref 1], M)) rfl ?_
  refine pm_irun 1 (σ' := (8, [some (.ref 1), some (.ref 8)], [], (pm_sI M 1 0 ((M.1 8 0))))) rfl ?_
  refine pm_ilt (fun y => (8, [some (.ref 1), some (.ref 8)], [], y)) (fun M1 => ?_)
  refine pm_irun 8 (σ' := (22, [some (.ref 1), some (.ref 8)], [.ref 2, .int (0 : Int32), .ref 2, .int (0 : Int32), .ref 9], M1)) rfl ?_
  refine pm_irun 1 (σ' := (23, [some (.ref 1), some (.ref 8)], [.int (5 : Int32), .int (0 : Int32), .ref 2, .int (0 : Int32), .ref 9], M1)) rfl ?_
  refine pm_igt (c := ¬ (0 : Int32) < 0 ∧ ¬ (0 : Int32) < 0 ∧ ¬ (5 : Int32) < 0 ∧ 0 + 5 ≤ 5 ∧ 0 + 5 ≤ 5 ∧ (([] : List Value).map fun v => v.category).sum ≤ 8) (σ1 := (26, [some (.ref 1), some (.ref 8)], [], (pm_cI M1 9 2 0 0 5))) (by decide) rfl ?_
  refine pm_ilt (fun y => (26, [some (.ref 1), some (.ref 8)], [], y)) (fun M2 => ?_)
  refine pm_irun 8 (σ' := (40, [some (.ref 1), some (.ref 8)], [.ref 3, .int (0 : Int32), .ref 3, .int (0 : Int32), .ref 10], M2)) rfl ?_
  refine pm_irun 1 (σ' := (41, [some (.ref 1), some (.ref 8)], [.int (10 : Int32), .int (0 : Int32), .ref 3, .int (0 : Int32), .ref 10], M2)) rfl ?_
  refine pm_igt (c := ¬ (0 : Int32) < 0 ∧ ¬ (0 : Int32) < 0 ∧ ¬ (10 : Int32) < 0 ∧ 0 + 10 ≤ 10 ∧ 0 + 10 ≤ 10 ∧ (([] : List Value).map fun v => v.category).sum ≤ 8) (σ1 := (44, [some (.ref 1), some (.ref 8)], [], (pm_cI M2 10 3 0 0 10))) (by decide) rfl ?_
  refine pm_ilt (fun y => (44, [some (.ref 1), some (.ref 8)], [], y)) (fun M3 => ?_)
  refine pm_irun 8 (σ' := (58, [some (.ref 1), some (.ref 8)], [.ref 4, .int (0 : Int32), .ref 4, .int (0 : Int32), .ref 11], M3)) rfl ?_
  refine pm_irun 1 (σ' := (59, [some (.ref 1), some (.ref 8)], [.int (2 : Int32), .int (0 : Int32), .ref 4, .int (0 : Int32), .ref 11], M3)) rfl ?_
  refine pm_igt (c := ¬ (0 : Int32) < 0 ∧ ¬ (0 : Int32) < 0 ∧ ¬ (2 : Int32) < 0 ∧ 0 + 2 ≤ 2 ∧ 0 + 2 ≤ 2 ∧ (([] : List Value).map fun v => v.category).sum ≤ 8) (σ1 := (62, [some (.ref 1), some (.ref 8)], [], (pm_cI M3 11 4 0 0 2))) (by decide) rfl ?_
  refine pm_ilt (fun y => (62, [some (.ref 1), some (.ref 8)], [], y)) (fun M4 => ?_)
  refine pm_irun 8 (σ' := (76, [some (.ref 1), some (.ref 8)], [.ref 5, .int (0 : Int32), .ref 5, .int (0 : Int32), .ref 12], M4)) rfl ?_
  refine pm_irun 1 (σ' := (77, [some (.ref 1), some (.ref 8)], [.int (2 : Int32), .int (0 : Int32), .ref 5, .int (0 : Int32), .ref 12], M4)) rfl ?_
  refine pm_igt (c := ¬ (0 : Int32) < 0 ∧ ¬ (0 : Int32) < 0 ∧ ¬ (2 : Int32) < 0 ∧ 0 + 2 ≤ 2 ∧ 0 + 2 ≤ 2 ∧ (([] : List Value).map fun v => v.category).sum ≤ 8) (σ1 := (80, [some (.ref 1), some (.ref 8)], [], (pm_cI M4 12 5 0 0 2))) (by decide) rfl ?_
  refine pm_ilt (fun y => (80, [some (.ref 1), some (.ref 8)], [], y)) (fun M5 => ?_)
  refine pm_irun 8 (σ' := (94, [some (.ref 1), some (.ref 8)], [.ref 6, .int (0 : Int32), .ref 6, .int (0 : Int32), .ref 13], M5)) rfl ?_
  refine pm_irun 1 (σ' := (95, [some (.ref 1), some (.ref 8)], [.int (50 : Int32), .int (0 : Int32), .ref 6, .int (0 : Int32), .ref 13], M5)) rfl ?_
  refine pm_igt (c := ¬ (0 : Int32) < 0 ∧ ¬ (0 : Int32) < 0 ∧ ¬ (50 : Int32) < 0 ∧ 0 + 50 ≤ 50 ∧ 0 + 50 ≤ 50 ∧ (([] : List Value).map fun v => v.category).sum ≤ 8) (σ1 := (98, [some (.ref 1), some (.ref 8)], [], (pm_cI M5 13 6 0 0 50))) (by decide) rfl ?_
  refine pm_ilt (fun y => (98, [some (.ref 1), some (.ref 8)], [], y)) (fun M6 => ?_)
  refine pm_irun 8 (σ' := (112, [some (.ref 1), some (.ref 8)], [.ref 7, .int (0 : Int32), .ref 7, .int (0 : Int32), .ref 14], M6)) rfl ?_
  refine pm_irun 1 (σ' := (113, [some (.ref 1), some (.ref 8)], [.int (2 : Int32), .int (0 : Int32), .ref 7, .int (0 : Int32), .ref 14], M6)) rfl ?_
  refine pm_igt (c := ¬ (0 : Int32) < 0 ∧ ¬ (0 : Int32) < 0 ∧ ¬ (2 : Int32) < 0 ∧ 0 + 2 ≤ 2 ∧ 0 + 2 ≤ 2 ∧ (([] : List Value).map fun v => v.category).sum ≤ 8) (σ1 := (116, [some (.ref 1), some (.ref 8)], [], (pm_cL M6 14 7 0 0 2))) (by decide) rfl ?_
  refine pm_ilt (fun y => (116, [some (.ref 1), some (.ref 8)], [], y)) (fun M7 => ?_)
  exact pm_irV rfl rfl
def sC_back  (M : pm_M) : Option (Int32 × pm_M) := if ¬ (M.1 0 2) = 0 then (pm_bv (sNet_takeFrom_1_8 M) fun M1 => pm_bv (sC_netTold M1) fun M2 => some ((M2.1 1 0), M2)) else (some ((-3 : Int32), M))
abbrev I_C_back (sh : Option (Int32 × pm_M)) (σ : pm_St) : Prop := pm_Im none (pm_Ev 4) pm_T88 (some .int) pm_rI sh σ
set_option maxHeartbeats 4000000 in
set_option maxRecDepth 100000 in
theorem sC_back_ok  (M : pm_M) : ∀ r, sC_back  M = some r → pm_Ev 5 88 [.ref 0] M (pm_rI r).1 (pm_rI r).2 := by
  refine pm_meth (al := [some (.ref 0)]) rfl rfl rfl rfl rfl ?_
  unfold sC_back
  show I_C_back _ (0, [some (.ref 0)], [], M)
  refine pm_irun 2 (σ' := (4, [some (.ref 0)], [.int (M.1 0 2)], M)) rfl ?_
  refine pm_iite (σ1 := (10, [some (.ref 0)], [], M)) (σ2 := (7, [some (.ref 0)], [], M)) rfl (fun _ => ?_) (fun _ => ?_)
  · refine pm_irun 4 (σ' := (18, [some (.ref 0)], [.ref 8, .ref 1], M)) rfl ?_
    refine pm_icV (as := [.ref 1, .ref 8]) (rest := []) rfl rfl rfl rfl (Nat.le_of_ble_eq_true rfl) rfl (fun r h => pm_Ev_mono (Nat.le_of_ble_eq_true rfl) (sNet_takeFrom_1_8_ok M r h)) (fun M1 => ?_)
    show pm_Im _ _ _ _ _ _ (21, [some (.ref 0)], [], M1)
    refine pm_irun 1 (σ' := (22, [some (.ref 0)], [.ref 0], M1)) rfl ?_
    refine pm_icV (as := [.ref 0]) (rest := []) rfl rfl rfl rfl (Nat.le_of_ble_eq_true rfl) rfl (fun r h => pm_Ev_mono (Nat.le_of_ble_eq_true rfl) (sC_netTold_ok M1 r h)) (fun M2 => ?_)
    show pm_Im _ _ _ _ _ _ (25, [some (.ref 0)], [], M2)
    refine pm_irun 3 (σ' := (32, [some (.ref 0)], [.int (M2.1 1 0)], M2)) rfl ?_
    exact pm_irI rfl rfl
  · refine pm_irun 1 (σ' := (9, [some (.ref 0)], [.int (-3 : Int32)], M)) rfl ?_
    exact pm_irI rfl rfl
def sR_copies_72_50 (a3 : Int32) (M : pm_M) : Option (pm_M) := pm_loop (fun _ _ => none) (fun (g1 : Int32 → pm_M → Option (pm_M)) x3 M2 => if a3 ≤ x3 then (some M2) else (if pm_in x3 5 then (if pm_in x3 5 then (pm_lt (pm_sI M2 50 x3.toNatClampNeg ((M2.1 72 x3.toNatClampNeg))) fun M4 => pm_lt ((x3 + (1 : Int32))) fun x5 => g1 x5 M4) else none) else none)) 1000000 (0 : Int32) M
abbrev I_R_copies_72_50 (sh : Option (pm_M)) (σ : pm_St) : Prop := pm_Im none (pm_Ev 0) pm_T195 none pm_rV sh σ
set_option maxHeartbeats 4000000 in
set_option maxRecDepth 100000 in
theorem sR_copies_72_50_ok (a3 : Int32) (M : pm_M) : ∀ r, sR_copies_72_50 a3 M = some r → pm_Ev 1 195 [.ref 72, .ref 50, .int a3] M (pm_rV r).1 (pm_rV r).2 := by
  refine pm_meth (al := [some (.ref 72), some (.ref 50), some (.int a3), none]) rfl rfl rfl rfl rfl ?_
  unfold sR_copies_72_50
  show I_R_copies_72_50 _ (0, [some (.ref 72), some (.ref 50), some (.int a3), none], [], M)
  refine pm_irun 2 (σ' := (2, [some (.ref 72), some (.ref 50), some (.int a3), some (.int (0 : Int32))], [], M)) rfl ?_
  refine pm_iloop (fun (g : Int32 → pm_M → Option (pm_M)) => ∀ (x3 : Int32) (M2 : pm_M), I_R_copies_72_50 (g x3 M2) (2, [some (.ref 72), some (.ref 50), some (.int a3), some (.int x3)], [], M2)) (fun _ _ => pm_inone) (fun g1 hg1 x3 M2 => ?_) 1000000 _ _
  show I_R_copies_72_50 _ (2, [some (.ref 72), some (.ref 50), some (.int a3), some (.int x3)], [], M2)
  refine pm_irun 2 (σ' := (4, [some (.ref 72), some (.ref 50), some (.int a3), some (.int x3)], [.int a3, .int x3], M2)) rfl ?_
  refine pm_iite (σ1 := (19, [some (.ref 72), some (.ref 50), some (.int a3), some (.int x3)], [], M2)) (σ2 := (7, [some (.ref 72), some (.ref 50), some (.int a3), some (.int x3)], [], M2)) rfl (fun _ => ?_) (fun _ => ?_)
  · exact pm_irV rfl rfl
  · refine pm_irun 4 (σ' := (11, [some (.ref 72), some (.ref 50), some (.int a3), some (.int x3)], [.int x3, .ref 72, .int x3, .ref 50], M2)) rfl ?_
    refine pm_igd (σ1 := (12, [some (.ref 72), some (.ref 50), some (.int a3), some (.int x3)], [.int (M2.1 72 x3.toNatClampNeg), .int x3, .ref 50], M2)) rfl (fun _ => ?_)
    refine pm_igd (σ1 := (13, [some (.ref 72), some (.ref 50), some (.int a3), some (.int x3)], [], (pm_sI M2 50 x3.toNatClampNeg ((M2.1 72 x3.toNatClampNeg))))) rfl (fun _ => ?_)
    refine pm_ilt (fun y => (13, [some (.ref 72), some (.ref 50), some (.int a3), some (.int x3)], [], y)) (fun M4 => ?_)
    refine pm_irun 1 (σ' := (16, [some (.ref 72), some (.ref 50), some (.int a3), some (.int (x3 + (1 : Int32)))], [], M4)) rfl ?_
    refine pm_ilt (fun y => (16, [some (.ref 72), some (.ref 50), some (.int a3), some (.int y)], [], M4)) (fun x5 => ?_)
    refine pm_irun 1 (σ' := (2, [some (.ref 72), some (.ref 50), some (.int a3), some (.int x5)], [], M4)) rfl ?_
    exact hg1 _ _
def sR_copies_73_51 (a3 : Int32) (M : pm_M) : Option (pm_M) := pm_loop (fun _ _ => none) (fun (g1 : Int32 → pm_M → Option (pm_M)) x3 M2 => if a3 ≤ x3 then (some M2) else (if pm_in x3 10 then (if pm_in x3 10 then (pm_lt (pm_sI M2 51 x3.toNatClampNeg ((M2.1 73 x3.toNatClampNeg))) fun M4 => pm_lt ((x3 + (1 : Int32))) fun x5 => g1 x5 M4) else none) else none)) 1000000 (0 : Int32) M
abbrev I_R_copies_73_51 (sh : Option (pm_M)) (σ : pm_St) : Prop := pm_Im none (pm_Ev 0) pm_T195 none pm_rV sh σ
set_option maxHeartbeats 4000000 in
set_option maxRecDepth 100000 in
theorem sR_copies_73_51_ok (a3 : Int32) (M : pm_M) : ∀ r, sR_copies_73_51 a3 M = some r → pm_Ev 1 195 [.ref 73, .ref 51, .int a3] M (pm_rV r).1 (pm_rV r).2 := by
  refine pm_meth (al := [some (.ref 73), some (.ref 51), some (.int a3), none]) rfl rfl rfl rfl rfl ?_
  unfold sR_copies_73_51
  show I_R_copies_73_51 _ (0, [some (.ref 73), some (.ref 51), some (.int a3), none], [], M)
  refine pm_irun 2 (σ' := (2, [some (.ref 73), some (.ref 51), some (.int a3), some (.int (0 : Int32))], [], M)) rfl ?_
  refine pm_iloop (fun (g : Int32 → pm_M → Option (pm_M)) => ∀ (x3 : Int32) (M2 : pm_M), I_R_copies_73_51 (g x3 M2) (2, [some (.ref 73), some (.ref 51), some (.int a3), some (.int x3)], [], M2)) (fun _ _ => pm_inone) (fun g1 hg1 x3 M2 => ?_) 1000000 _ _
  show I_R_copies_73_51 _ (2, [some (.ref 73), some (.ref 51), some (.int a3), some (.int x3)], [], M2)
  refine pm_irun 2 (σ' := (4, [some (.ref 73), some (.ref 51), some (.int a3), some (.int x3)], [.int a3, .int x3], M2)) rfl ?_
  refine pm_iite (σ1 := (19, [some (.ref 73), some (.ref 51), some (.int a3), some (.int x3)], [], M2)) (σ2 := (7, [some (.ref 73), some (.ref 51), some (.int a3), some (.int x3)], [], M2)) rfl (fun _ => ?_) (fun _ => ?_)
  · exact pm_irV rfl rfl
  · refine pm_irun 4 (σ' := (11, [some (.ref 73), some (.ref 51), some (.int a3), some (.int x3)], [.int x3, .ref 73, .int x3, .ref 51], M2)) rfl ?_
    refine pm_igd (σ1 := (12, [some (.ref 73), some (.ref 51), some (.int a3), some (.int x3)], [.int (M2.1 73 x3.toNatClampNeg), .int x3, .ref 51], M2)) rfl (fun _ => ?_)
    refine pm_igd (σ1 := (13, [some (.ref 73), some (.ref 51), some (.int a3), some (.int x3)], [], (pm_sI M2 51 x3.toNatClampNeg ((M2.1 73 x3.toNatClampNeg))))) rfl (fun _ => ?_)
    refine pm_ilt (fun y => (13, [some (.ref 73), some (.ref 51), some (.int a3), some (.int x3)], [], y)) (fun M4 => ?_)
    refine pm_irun 1 (σ' := (16, [some (.ref 73), some (.ref 51), some (.int a3), some (.int (x3 + (1 : Int32)))], [], M4)) rfl ?_
    refine pm_ilt (fun y => (16, [some (.ref 73), some (.ref 51), some (.int a3), some (.int y)], [], M4)) (fun x5 => ?_)
    refine pm_irun 1 (σ' := (2, [some (.ref 73), some (.ref 51), some (.int a3), some (.int x5)], [], M4)) rfl ?_
    exact hg1 _ _
def sR_copies_74_52 (a3 : Int32) (M : pm_M) : Option (pm_M) := pm_loop (fun _ _ => none) (fun (g1 : Int32 → pm_M → Option (pm_M)) x3 M2 => if a3 ≤ x3 then (some M2) else (if pm_in x3 2 then (if pm_in x3 2 then (pm_lt (pm_sI M2 52 x3.toNatClampNeg ((M2.1 74 x3.toNatClampNeg))) fun M4 => pm_lt ((x3 + (1 : Int32))) fun x5 => g1 x5 M4) else none) else none)) 1000000 (0 : Int32) M
abbrev I_R_copies_74_52 (sh : Option (pm_M)) (σ : pm_St) : Prop := pm_Im none (pm_Ev 0) pm_T195 none pm_rV sh σ
set_option maxHeartbeats 4000000 in
set_option maxRecDepth 100000 in
theorem sR_copies_74_52_ok (a3 : Int32) (M : pm_M) : ∀ r, sR_copies_74_52 a3 M = some r → pm_Ev 1 195 [.ref 74, .ref 52, .int a3] M (pm_rV r).1 (pm_rV r).2 := by
  refine pm_meth (al := [some (.ref 74), some (.ref 52), some (.int a3), none]) rfl rfl rfl rfl rfl ?_
  unfold sR_copies_74_52
  show I_R_copies_74_52 _ (0, [some (.ref 74), some (.ref 52), some (.int a3), none], [], M)
  refine pm_irun 2 (σ' := (2, [some (.ref 74), some (.ref 52), some (.int a3), some (.int (0 : Int32))], [], M)) rfl ?_
  refine pm_iloop (fun (g : Int32 → pm_M → Option (pm_M)) => ∀ (x3 : Int32) (M2 : pm_M), I_R_copies_74_52 (g x3 M2) (2, [some (.ref 74), some (.ref 52), some (.int a3), some (.int x3)], [], M2)) (fun _ _ => pm_inone) (fun g1 hg1 x3 M2 => ?_) 1000000 _ _
  show I_R_copies_74_52 _ (2, [some (.ref 74), some (.ref 52), some (.int a3), some (.int x3)], [], M2)
  refine pm_irun 2 (σ' := (4, [some (.ref 74), some (.ref 52), some (.int a3), some (.int x3)], [.int a3, .int x3], M2)) rfl ?_
  refine pm_iite (σ1 := (19, [some (.ref 74), some (.ref 52), some (.int a3), some (.int x3)], [], M2)) (σ2 := (7, [some (.ref 74), some (.ref 52), some (.int a3), some (.int x3)], [], M2)) rfl (fun _ => ?_) (fun _ => ?_)
  · exact pm_irV rfl rfl
  · refine pm_irun 4 (σ' := (11, [some (.ref 74), some (.ref 52), some (.int a3), some (.int x3)], [.int x3, .ref 74, .int x3, .ref 52], M2)) rfl ?_
    refine pm_igd (σ1 := (12, [some (.ref 74), some (.ref 52), some (.int a3), some (.int x3)], [.int (M2.1 74 x3.toNatClampNeg), .int x3, .ref 52], M2)) rfl (fun _ => ?_)
    refine pm_igd (σ1 := (13, [some (.ref 74), some (.ref 52), some (.int a3), some (.int x3)], [], (pm_sI M2 52 x3.toNatClampNeg ((M2.1 74 x3.toNatClampNeg))))) rfl (fun _ => ?_)
    refine pm_ilt (fun y => (13, [some (.ref 74), some (.ref 52), some (.int a3), some (.int x3)], [], y)) (fun M4 => ?_)
    refine pm_irun 1 (σ' := (16, [some (.ref 74), some (.ref 52), some (.int a3), some (.int (x3 + (1 : Int32)))], [], M4)) rfl ?_
    refine pm_ilt (fun y => (16, [some (.ref 74), some (.ref 52), some (.int a3), some (.int y)], [], M4)) (fun x5 => ?_)
    refine pm_irun 1 (σ' := (2, [some (.ref 74), some (.ref 52), some (.int a3), some (.int x5)], [], M4)) rfl ?_
    exact hg1 _ _
