def sR_copies_75_53 (a3 : Int32) (M : pm_M) : Option (pm_M) := pm_loop (fun _ _ => none) (fun (g1 : Int32 → pm_M → Option (pm_M)) x3 M2 => if a3 ≤ x3 then (some M2) else (if pm_in x3 2 then (if pm_in x3 2 then (pm_lt (pm_sI M2 53 x3.toNatClampNeg ((M2.1 75 x3.toNatClampNeg))) fun M4 => pm_lt ((x3 + (1 : Int32))) fun x5 => g1 x5 M4) else none) else none)) 1000000 (0 : Int32) M
abbrev I_R_copies_75_53 (sh : Option (pm_M)) (σ : pm_St) : Prop := pm_Im none (pm_Ev 0) pm_T195 none pm_rV sh σ
set_option maxHeartbeats 4000000 in
set_option maxRecDepth 100000 in
theorem sR_copies_75_53_ok (a3 : Int32) (M : pm_M) : ∀ r, sR_copies_75_53 a3 M = some r → pm_Ev 1 195 [.ref 75, .ref 53, .int a3] M (pm_rV r).1 (pm_rV r).2 := by
  refine pm_meth (al := [some (.ref 75), some (.ref 53), some (.int a3), none]) rfl rfl rfl rfl rfl ?_
  unfold sR_copies_75_53
  show I_R_copies_75_53 _ (0, [some (.ref 75), some (.ref 53), some (.int a3), none], [], M)
  refine pm_irun 2 (σ' := (2, [some (.ref 75), some (.ref 53), some (.int a3), some (.int (0 : Int32))], [], M)) rfl ?_
  refine pm_iloop (fun (g : Int32 → pm_M → Option (pm_M)) => ∀ (x3 : Int32) (M2 : pm_M), I_R_copies_75_53 (g x3 M2) (2, [some (.ref 75), some (.ref 53), some (.int a3), some (.int x3)], [], M2)) (fun _ _ => pm_inone) (fun g1 hg1 x3 M2 => ?_) 1000000 _ _
  show I_R_copies_75_53 _ (2, [some (.ref 75), some (.ref 53), some (.int a3), some (.int x3)], [], M2)
  refine pm_irun 2 (σ' := (4, [some (.ref 75), some (.ref 53), some (.int a3), some (.int x3)], [.int a3, .int x3], M2)) rfl ?_
  refine pm_iite (σ1 := (19, [some (.ref 75), some (.ref 53), some (.int a3), some (.int x3)], [], M2)) (σ2 := (7, [some (.ref 75), some (.ref 53), some (.int a3), some (.int x3)], [], M2)) rfl (fun _ => ?_) (fun _ => ?_)
  · exact pm_irV rfl rfl
  · refine pm_irun 4 (σ' := (11, [some (.ref 75), some (.ref 53), some (.int a3), some (.int x3)], [.int x3, .ref 75, .int x3, .ref 53], M2)) rfl ?_
    refine pm_igd (σ1 := (12, [some (.ref 75), some (.ref 53), some (.int a3), some (.int x3)], [.int (M2.1 75 x3.toNatClampNeg), .int x3, .ref 53], M2)) rfl (fun _ => ?_)
    refine pm_igd (σ1 := (13, [some (.ref 75), some (.ref 53), some (.int a3), some (.int x3)], [], (pm_sI M2 53 x3.toNatClampNeg ((M2.1 75 x3.toNatClampNeg))))) rfl (fun _ => ?_)
    refine pm_ilt (fun y => (13, [some (.ref 75), some (.ref 53), some (.int a3), some (.int x3)], [], y)) (fun M4 => ?_)
    refine pm_irun 1 (σ' := (16, [some (.ref 75), some (.ref 53), some (.int a3), some (.int (x3 + (1 : Int32)))], [], M4)) rfl ?_
    refine pm_ilt (fun y => (16, [some (.ref 75), some (.ref 53), some (.int a3), some (.int y)], [], M4)) (fun x5 => ?_)
    refine pm_irun 1 (σ' := (2, [some (.ref 75), some (.ref 53), some (.int a3), some (.int x5)], [], M4)) rfl ?_
    exact hg1 _ _
def sR_copies_76_54 (a3 : Int32) (M : pm_M) : Option (pm_M) := pm_loop (fun _ _ => none) (fun (g1 : Int32 → pm_M → Option (pm_M)) x3 M2 => if a3 ≤ x3 then (some M2) else (if pm_in x3 50 then (if pm_in x3 50 then (pm_lt (pm_sI M2 54 x3.toNatClampNeg ((M2.1 76 x3.toNatClampNeg))) fun M4 => pm_lt ((x3 + (1 : Int32))) fun x5 => g1 x5 M4) else none) else none)) 1000000 (0 : Int32) M
abbrev I_R_copies_76_54 (sh : Option (pm_M)) (σ : pm_St) : Prop := pm_Im none (pm_Ev 0) pm_T195 none pm_rV sh σ
set_option maxHeartbeats 4000000 in
set_option maxRecDepth 100000 in
theorem sR_copies_76_54_ok (a3 : Int32) (M : pm_M) : ∀ r, sR_copies_76_54 a3 M = some r → pm_Ev 1 195 [.ref 76, .ref 54, .int a3] M (pm_rV r).1 (pm_rV r).2 := by
  refine pm_meth (al := [some (.ref 76), some (.ref 54), some (.int a3), none]) rfl rfl rfl rfl rfl ?_
  unfold sR_copies_76_54
  show I_R_copies_76_54 _ (0, [some (.ref 76), some (.ref 54), some (.int a3), none], [], M)
  refine pm_irun 2 (σ' := (2, [some (.ref 76), some (.ref 54), some (.int a3), some (.int (0 : Int32))], [], M)) rfl ?_
  refine pm_iloop (fun (g : Int32 → pm_M → Option (pm_M)) => ∀ (x3 : Int32) (M2 : pm_M), I_R_copies_76_54 (g x3 M2) (2, [some (.ref 76), some (.ref 54), some (.int a3), some (.int x3)], [], M2)) (fun _ _ => pm_inone) (fun g1 hg1 x3 M2 => ?_) 1000000 _ _
  show I_R_copies_76_54 _ (2, [some (.ref 76), some (.ref 54), some (.int a3), some (.int x3)], [], M2)
  refine pm_irun 2 (σ' := (4, [some (.ref 76), some (.ref 54), some (.int a3), some (.int x3)], [.int a3, .int x3], M2)) rfl ?_
  refine pm_iite (σ1 := (19, [some (.ref 76), some (.ref 54), some (.int a3), some (.int x3)], [], M2)) (σ2 := (7, [some (.ref 76), some (.ref 54), some (.int a3), some (.int x3)], [], M2)) rfl (fun _ => ?_) (fun _ => ?_)
  · exact pm_irV rfl rfl
  · refine pm_irun 4 (σ' := (11, [some (.ref 76), some (.ref 54), some (.int a3), some (.int x3)], [.int x3, .ref 76, .int x3, .ref 54], M2)) rfl ?_
    refine pm_igd (σ1 := (12, [some (.ref 76), some (.ref 54), some (.int a3), some (.int x3)], [.int (M2.1 76 x3.toNatClampNeg), .int x3, .ref 54], M2)) rfl (fun _ => ?_)
    refine pm_igd (σ1 := (13, [some (.ref 76), some (.ref 54), some (.int a3), some (.int x3)], [], (pm_sI M2 54 x3.toNatClampNeg ((M2.1 76 x3.toNatClampNeg))))) rfl (fun _ => ?_)
    refine pm_ilt (fun y => (13, [some (.ref 76), some (.ref 54), some (.int a3), some (.int x3)], [], y)) (fun M4 => ?_)
    refine pm_irun 1 (σ' := (16, [some (.ref 76), some (.ref 54), some (.int a3), some (.int (x3 + (1 : Int32)))], [], M4)) rfl ?_
    refine pm_ilt (fun y => (16, [some (.ref 76), some (.ref 54), some (.int a3), some (.int y)], [], M4)) (fun x5 => ?_)
    refine pm_irun 1 (σ' := (2, [some (.ref 76), some (.ref 54), some (.int a3), some (.int x5)], [], M4)) rfl ?_
    exact hg1 _ _
def sR_back  (M : pm_M) : Option (Int32 × pm_M) := if ¬ (M.1 49 32) = (-1 : Int32) then (pm_lt (pm_sI M 49 1 ((M.1 49 32))) fun M1 => pm_bv (sR_copies_72_50 (5 : Int32) M1) fun M2 => pm_bv (sR_copies_73_51 (10 : Int32) M2) fun M3 => pm_bv (sR_copies_74_52 (2 : Int32) M3) fun M4 => pm_bv (sR_copies_75_53 (2 : Int32) M4) fun M5 => pm_bv (sR_copies_76_54 (50 : Int32) M5) fun M6 => pm_lt (pm_sL M6 55 0 ((M6.2 77 0))) fun M7 => pm_lt (pm_sL M7 55 1 ((M7.2 77 1))) fun M8 => pm_bv (sR_ends M8) fun M9 => some ((M9.1 49 1), M9)) else (some ((-3 : Int32), M))
abbrev I_R_back (sh : Option (Int32 × pm_M)) (σ : pm_St) : Prop := pm_Im none (pm_Ev 1) pm_T197 (some .int) pm_rI sh σ
set_option maxHeartbeats 4000000 in
set_option maxRecDepth 100000 in
theorem sR_back_ok  (M : pm_M) : ∀ r, sR_back  M = some r → pm_Ev 2 197 [.ref 49] M (pm_rI r).1 (pm_rI r).2 := by
  refine pm_meth (al := [some (.ref 49)]) rfl rfl rfl rfl rfl ?_
  unfold sR_back
  show I_R_back _ (0, [some (.ref 49)], [], M)
  refine pm_irun 3 (σ' := (5, [some (.ref 49)], [.int (-1 : Int32), .int (M.1 49 32)], M)) rfl ?_
  refine pm_iite (σ1 := (11, [some (.ref 49)], [], M)) (σ2 := (8, [some (.ref 49)], [], M)) rfl (fun _ => ?_) (fun _ => ?_)
  · refine pm_irun 3 (σ' := (16, [some (.ref 49)], [.int (M.1 49 32), .ref 49], M)) rfl ?_
    refine pm_irun 1 (σ' := (19, [some (.ref 49)], [], (pm_sI M 49 1 ((M.1 49 32))))) rfl ?_
    refine pm_ilt (fun y => (19, [some (.ref 49)], [], y)) (fun M1 => ?_)
    refine pm_irun 5 (σ' := (28, [some (.ref 49)], [.int (5 : Int32), .ref 50, .ref 72], M1)) rfl ?_
    refine pm_icV (as := [.ref 72, .ref 50, .int (5 : Int32)]) (rest := []) rfl rfl rfl rfl (Nat.le_of_ble_eq_true rfl) rfl (fun r h => pm_Ev_mono (Nat.le_of_ble_eq_true rfl) (sR_copies_72_50_ok (5 : Int32) M1 r h)) (fun M2 => ?_)
    show pm_Im _ _ _ _ _ _ (31, [some (.ref 49)], [], M2)
    refine pm_irun 5 (σ' := (41, [some (.ref 49)], [.int (10 : Int32), .ref 51, .ref 73], M2)) rfl ?_
    refine pm_icV (as := [.ref 73, .ref 51, .int (10 : Int32)]) (rest := []) rfl rfl rfl rfl (Nat.le_of_ble_eq_true rfl) rfl (fun r h => pm_Ev_mono (Nat.le_of_ble_eq_true rfl) (sR_copies_73_51_ok (10 : Int32) M2 r h)) (fun M3 => ?_)
    show pm_Im _ _ _ _ _ _ (44, [some (.ref 49)], [], M3)
    refine pm_irun 5 (σ' := (53, [some (.ref 49)], [.int (2 : Int32), .ref 52, .ref 74], M3)) rfl ?_
    refine pm_icV (as := [.ref 74, .ref 52, .int (2 : Int32)]) (rest := []) rfl rfl rfl rfl (Nat.le_of_ble_eq_true rfl) rfl (fun r h => pm_Ev_mono (Nat.le_of_ble_eq_true rfl) (sR_copies_74_52_ok (2 : Int32) M3 r h)) (fun M4 => ?_)
    show pm_Im _ _ _ _ _ _ (56, [some (.ref 49)], [], M4)
    refine pm_irun 5 (σ' := (65, [some (.ref 49)], [.int (2 : Int32), .ref 53, .ref 75], M4)) rfl ?_
    refine pm_icV (as := [.ref 75, .ref 53, .int (2 : Int32)]) (rest := []) rfl rfl rfl rfl (Nat.le_of_ble_eq_true rfl) rfl (fun r h => pm_Ev_mono (Nat.le_of_ble_eq_true rfl) (sR_copies_75_53_ok (2 : Int32) M4 r h)) (fun M5 => ?_)
    show pm_Im _ _ _ _ _ _ (68, [some (.ref 49)], [], M5)
    refine pm_irun 5 (σ' := (78, [some (.ref 49)], [.int (50 : Int32), .ref 54, .ref 76], M5)) rfl ?_
    refine pm_icV (as := [.ref 76, .ref 54, .int (50 : Int32)]) (rest := []) rfl rfl rfl rfl (Nat.le_of_ble_eq_true rfl) rfl (fun r h => pm_Ev_mono (Nat.le_of_ble_eq_true rfl) (sR_copies_76_54_ok (50 : Int32) M5 r h)) (fun M6 => ?_)
    show pm_Im _ _ _ _ _ _ (81, [some (.ref 49)], [], M6)
    refine pm_irun 6 (σ' := (91, [some (.ref 49)], [.int (0 : Int32), .ref 77, .int (0 : Int32), .ref 55], M6)) rfl ?_
    refine pm_igt (c := pm_in (0 : Int32) 2) (σ1 := (92, [some (.ref 49)], [.long (M6.2 77 0), .int (0 : Int32), .ref 55], M6)) (by decide) rfl ?_
    refine pm_igt (c := pm_in (0 : Int32) 2) (σ1 := (93, [some (.ref 49)], [], (pm_sL M6 55 0 ((M6.2 77 0))))) (by decide) rfl ?_
    refine pm_ilt (fun y => (93, [some (.ref 49)], [], y)) (fun M7 => ?_)
    refine pm_irun 6 (σ' := (103, [some (.ref 49)], [.int (1 : Int32), .ref 77, .int (1 : Int32), .ref 55], M7)) rfl ?_
    refine pm_igt (c := pm_in (1 : Int32) 2) (σ1 := (104, [some (.ref 49)], [.long (M7.2 77 1), .int (1 : Int32), .ref 55], M7)) (by decide) rfl ?_
    refine pm_igt (c := pm_in (1 : Int32) 2) (σ1 := (105, [some (.ref 49)], [], (pm_sL M7 55 1 ((M7.2 77 1))))) (by decide) rfl ?_
    refine pm_ilt (fun y => (105, [some (.ref 49)], [], y)) (fun M8 => ?_)
    refine pm_irun 1 (σ' := (106, [some (.ref 49)], [.ref 49], M8)) rfl ?_
    refine pm_icV (as := [.ref 49]) (rest := []) rfl rfl rfl rfl (Nat.le_of_ble_eq_true rfl) rfl (fun r h => pm_Ev_mono (Nat.le_of_ble_eq_true rfl) (sR_ends_ok M8 r h)) (fun M9 => ?_)
    show pm_Im _ _ _ _ _ _ (109, [some (.ref 49)], [], M9)
    refine pm_irun 2 (σ' := (113, [some (.ref 49)], [.int (M9.1 49 1)], M9)) rfl ?_
    exact pm_irI rfl rfl
  · refine pm_irun 1 (σ' := (10, [some (.ref 49)], [.int (-3 : Int32)], M)) rfl ?_
    exact pm_irI rfl rfl
def sNet_countRoutes_1  (M : pm_M) : Option (Int32 × pm_M) := pm_loop (fun _ _ _ => none) (fun (g1 : Int32 → Int32 → pm_M → Option (Int32 × pm_M)) x3 x4 M2 => if (50 : Int32) ≤ x4 then (some (x3, M2)) else (if pm_in x4 50 then (if (M2.1 6 x4.toNatClampNeg) ≤ 0 then (pm_lt ((x4 + (1 : Int32))) fun x5 => g1 x3 x5 M2) else (pm_lt ((x3 + (1 : Int32))) fun x6 => pm_lt ((x4 + (1 : Int32))) fun x7 => g1 x6 x7 M2)) else none)) 1000000 (0 : Int32) (0 : Int32) M
abbrev I_Net_countRoutes_1 (sh : Option (Int32 × pm_M)) (σ : pm_St) : Prop := pm_Im none (pm_Ev 0) pm_T7 (some .int) pm_rI sh σ
set_option maxHeartbeats 4000000 in
set_option maxRecDepth 100000 in
theorem sNet_countRoutes_1_ok  (M : pm_M) : ∀ r, sNet_countRoutes_1  M = some r → pm_Ev 1 7 [.ref 1] M (pm_rI r).1 (pm_rI r).2 := by
  refine pm_meth (al := [some (.ref 1), none, none]) rfl rfl rfl rfl rfl ?_
  unfold sNet_countRoutes_1
  show I_Net_countRoutes_1 _ (0, [some (.ref 1), none, none], [], M)
  refine pm_irun 2 (σ' := (2, [some (.ref 1), some (.int (0 : Int32)), none], [], M)) rfl ?_
  refine pm_irun 2 (σ' := (4, [some (.ref 1), some (.int (0 : Int32)), some (.int (0 : Int32))], [], M)) rfl ?_
  refine pm_iloop (fun (g : Int32 → Int32 → pm_M → Option (Int32 × pm_M)) => ∀ (x3 : Int32) (x4 : Int32) (M2 : pm_M), I_Net_countRoutes_1 (g x3 x4 M2) (4, [some (.ref 1), some (.int x3), some (.int x4)], [], M2)) (fun _ _ _ => pm_inone) (fun g1 hg1 x3 x4 M2 => ?_) 1000000 _ _ _
  show I_Net_countRoutes_1 _ (4, [some (.ref 1), some (.int x3), some (.int x4)], [], M2)
  refine pm_irun 4 (σ' := (10, [some (.ref 1), some (.int x3), some (.int x4)], [.int (50 : Int32), .int x4], M2)) rfl ?_
  refine pm_iite (σ1 := (31, [some (.ref 1), some (.int x3), some (.int x4)], [], M2)) (σ2 := (13, [some (.ref 1), some (.int x3), some (.int x4)], [], M2)) rfl (fun _ => ?_) (fun _ => ?_)
  · refine pm_irun 1 (σ' := (32, [some (.ref 1), some (.int x3), some (.int x4)], [.int x3], M2)) rfl ?_
    exact pm_irI rfl rfl
  · refine pm_irun 3 (σ' := (18, [some (.ref 1), some (.int x3), some (.int x4)], [.int x4, .ref 6], M2)) rfl ?_
    refine pm_igd (σ1 := (19, [some (.ref 1), some (.int x3), some (.int x4)], [.int (M2.1 6 x4.toNatClampNeg)], M2)) rfl (fun _ => ?_)
    refine pm_iite (σ1 := (25, [some (.ref 1), some (.int x3), some (.int x4)], [], M2)) (σ2 := (22, [some (.ref 1), some (.int x3), some (.int x4)], [], M2)) rfl (fun _ => ?_) (fun _ => ?_)
    · refine pm_irun 1 (σ' := (28, [some (.ref 1), some (.int x3), some (.int (x4 + (1 : Int32)))], [], M2)) rfl ?_
      refine pm_ilt (fun y => (28, [some (.ref 1), some (.int x3), some (.int y)], [], M2)) (fun x5 => ?_)
      refine pm_irun 1 (σ' := (4, [some (.ref 1), some (.int x3), some (.int x5)], [], M2)) rfl ?_
      exact hg1 _ _ _
    · refine pm_irun 1 (σ' := (25, [some (.ref 1), some (.int (x3 + (1 : Int32))), some (.int x4)], [], M2)) rfl ?_
      refine pm_ilt (fun y => (25, [some (.ref 1), some (.int y), some (.int x4)], [], M2)) (fun x6 => ?_)
      refine pm_irun 1 (σ' := (28, [some (.ref 1), some (.int x6), some (.int (x4 + (1 : Int32)))], [], M2)) rfl ?_
      refine pm_ilt (fun y => (28, [some (.ref 1), some (.int x6), some (.int y)], [], M2)) (fun x7 => ?_)
      refine pm_irun 1 (σ' := (4, [some (.ref 1), some (.int x6), some (.int x7)], [], M2)) rfl ?_
      exact hg1 _ _ _
def sC_count (a1 : Int32) (M : pm_M) : Option (Int32 × pm_M) := if a1 = Int32.ofNat 0 then (some ((M.1 1 0), M)) else if a1 = Int32.ofNat 1 then (some (((M.1 5 0) + (M.1 5 1)), M)) else if a1 = Int32.ofNat 2 then (pm_bd (sNet_countRoutes_1 M) fun v2 M1 => some (v2, M1)) else if a1 = Int32.ofNat 3 then (some ((M.1 30 1), M)) else if a1 = Int32.ofNat 4 then (some ((M.1 30 3), M)) else if a1 = Int32.ofNat 5 then (some ((M.1 37 0), M)) else (some ((-2 : Int32), M))
abbrev I_C_count (sh : Option (Int32 × pm_M)) (σ : pm_St) : Prop := pm_Im none (pm_Ev 1) pm_T89 (some .int) pm_rI sh σ
set_option maxHeartbeats 4000000 in
set_option maxRecDepth 100000 in
theorem sC_count_ok (a1 : Int32) (M : pm_M) : ∀ r, sC_count a1 M = some r → pm_Ev 2 89 [.ref 0, .int a1] M (pm_rI r).1 (pm_rI r).2 := by
  refine pm_meth (al := [some (.ref 0), some (.int a1)]) rfl rfl rfl rfl rfl ?_
  unfold sC_count
  show I_C_count _ (0, [some (.ref 0), some (.int a1)], [], M)
  refine pm_irun 1 (σ' := (1, [some (.ref 0), some (.int a1)], [.int a1], M)) rfl ?_
  refine pm_irun 1 (σ' := (pm_sw a1 100 [0, 40, 1, 48, 2, 68, 3, 76, 4, 84, 5, 92], [some (.ref 0), some (.int a1)], [], M)) rfl ?_
  refine pm_isw (fun _ => ?_) (fun _ => ?_)
  · show pm_Im _ _ _ _ _ _ (40, [some (.ref 0), some (.int a1)], [], M)
    refine pm_irun 3 (σ' := (47, [some (.ref 0), some (.int a1)], [.int (M.1 1 0)], M)) rfl ?_
    exact pm_irI rfl rfl
  refine pm_isw (fun _ => ?_) (fun _ => ?_)
  · show pm_Im _ _ _ _ _ _ (48, [some (.ref 0), some (.int a1)], [], M)
    refine pm_irun 4 (σ' := (56, [some (.ref 0), some (.int a1)], [.int (0 : Int32), .ref 5], M)) rfl ?_
    refine pm_igt (c := pm_in (0 : Int32) 2) (σ1 := (57, [some (.ref 0), some (.int a1)], [.int (M.1 5 0)], M)) (by decide) rfl ?_
    refine pm_irun 4 (σ' := (65, [some (.ref 0), some (.int a1)], [.int (1 : Int32), .ref 5, .int (M.1 5 0)], M)) rfl ?_
    refine pm_igt (c := pm_in (1 : Int32) 2) (σ1 := (66, [some (.ref 0), some (.int a1)], [.int (M.1 5 1), .int (M.1 5 0)], M)) (by decide) rfl ?_
    refine pm_irun 1 (σ' := (67, [some (.ref 0), some (.int a1)], [.int ((M.1 5 0) + (M.1 5 1))], M)) rfl ?_
    exact pm_irI rfl rfl
  refine pm_isw (fun _ => ?_) (fun _ => ?_)
  · show pm_Im _ _ _ _ _ _ (68, [some (.ref 0), some (.int a1)], [], M)
    refine pm_irun 2 (σ' := (72, [some (.ref 0), some (.int a1)], [.ref 1], M)) rfl ?_
    refine pm_icI (as := [.ref 1]) (rest := []) rfl rfl rfl rfl (Nat.le_of_ble_eq_true rfl) rfl (fun r h => pm_Ev_mono (Nat.le_of_ble_eq_true rfl) (sNet_countRoutes_1_ok M r h)) (fun v2 M1 => ?_)
    show pm_Im _ _ _ _ _ _ (75, [some (.ref 0), some (.int a1)], [.int v2], M1)
    exact pm_irI rfl rfl
  refine pm_isw (fun _ => ?_) (fun _ => ?_)
  · show pm_Im _ _ _ _ _ _ (76, [some (.ref 0), some (.int a1)], [], M)
    refine pm_irun 3 (σ' := (83, [some (.ref 0), some (.int a1)], [.int (M.1 30 1)], M)) rfl ?_
    exact pm_irI rfl rfl
  refine pm_isw (fun _ => ?_) (fun _ => ?_)
  · show pm_Im _ _ _ _ _ _ (84, [some (.ref 0), some (.int a1)], [], M)
    refine pm_irun 3 (σ' := (91, [some (.ref 0), some (.int a1)], [.int (M.1 30 3)], M)) rfl ?_
    exact pm_irI rfl rfl
  refine pm_isw (fun _ => ?_) (fun _ => ?_)
  · show pm_Im _ _ _ _ _ _ (92, [some (.ref 0), some (.int a1)], [], M)
    refine pm_irun 3 (σ' := (99, [some (.ref 0), some (.int a1)], [.int (M.1 37 0)], M)) rfl ?_
    exact pm_irI rfl rfl
  show pm_Im _ _ _ _ _ _ (100, [some (.ref 0), some (.int a1)], [], M)
  refine pm_irun 1 (σ' := (102, [some (.ref 0), some (.int a1)], [.int (-2 : Int32)], M)) rfl ?_
  exact pm_irI rfl rfl
def sR_count (a1 : Int32) (M : pm_M) : Option (Int32 × pm_M) := if a1 = Int32.ofNat 0 then (some ((M.1 49 1), M)) else if a1 = Int32.ofNat 1 then (some (((M.1 53 0) + (M.1 53 1)), M)) else if a1 = Int32.ofNat 2 then (pm_loop (fun _ _ _ => none) (fun (g1 : Int32 → Int32 → pm_M → Option (Int32 × pm_M)) x3 x4 M2 => if (50 : Int32) ≤ x4 then (some (x3, M2)) else (if pm_in x4 50 then (if (M2.1 54 x4.toNatClampNeg) ≤ 0 then (pm_lt ((x4 + (1 : Int32))) fun x5 => g1 x3 x5 M2) else (pm_lt ((x3 + (1 : Int32))) fun x6 => pm_lt ((x4 + (1 : Int32))) fun x7 => g1 x6 x7 M2)) else none)) 1000000 (0 : Int32) (0 : Int32) M) else if a1 = Int32.ofNat 3 then (pm_bd (sR_inTruth M) fun v9 M8 => some (v9, M8)) else if a1 = Int32.ofNat 4 then (some ((M.1 49 23), M)) else if a1 = Int32.ofNat 5 then (some ((M.1 49 9), M)) else (some ((-2 : Int32), M))
abbrev I_R_count (sh : Option (Int32 × pm_M)) (σ : pm_St) : Prop := pm_Im none (pm_Ev 1) pm_T198 (some .int) pm_rI sh σ
set_option maxHeartbeats 4000000 in
set_option maxRecDepth 100000 in
theorem sR_count_ok (a1 : Int32) (M : pm_M) : ∀ r, sR_count a1 M = some r → pm_Ev 2 198 [.ref 49, .int a1] M (pm_rI r).1 (pm_rI r).2 := by
  refine pm_meth (al := [some (.ref 49), some (.int a1), none, none]) rfl rfl rfl rfl rfl ?_
  unfold sR_count
  show I_R_count _ (0, [some (.ref 49), some (.int a1), none, none], [], M)
  refine pm_irun 1 (σ' := (1, [some (.ref 49), some (.int a1), none, none], [.int a1], M)) rfl ?_
  refine pm_irun 1 (σ' := (pm_sw a1 104 [0, 40, 1, 45, 2, 59, 3, 89, 4, 94, 5, 99], [some (.ref 49), some (.int a1), none, none], [], M)) rfl ?_
  refine pm_isw (fun _ => ?_) (fun _ => ?_)
  · show pm_Im _ _ _ _ _ _ (40, [some (.ref 49), some (.int a1), none, none], [], M)
    refine pm_irun 2 (σ' := (44, [some (.ref 49), some (.int a1), none, none], [.int (M.1 49 1)], M)) rfl ?_
    exact pm_irI rfl rfl
  refine pm_isw (fun _ => ?_) (fun _ => ?_)
  · show pm_Im _ _ _ _ _ _ (45, [some (.ref 49), some (.int a1), none, none], [], M)
    refine pm_irun 3 (σ' := (50, [some (.ref 49), some (.int a1), none, none], [.int (0 : Int32), .ref 53], M)) rfl ?_
    refine pm_igt (c := pm_in (0 : Int32) 2) (σ1 := (51, [some (.ref 49), some (.int a1), none, none], [.int (M.1 53 0)], M)) (by decide) rfl ?_
    refine pm_irun 3 (σ' := (56, [some (.ref 49), some (.int a1), none, none], [.int (1 : Int32), .ref 53, .int (M.1 53 0)], M)) rfl ?_
    refine pm_igt (c := pm_in (1 : Int32) 2) (σ1 := (57, [some (.ref 49), some (.int a1), none, none], [.int (M.1 53 1), .int (M.1 53 0)], M)) (by decide) rfl ?_
    refine pm_irun 1 (σ' := (58, [some (.ref 49), some (.int a1), none, none], [.int ((M.1 53 0) + (M.1 53 1))], M)) rfl ?_
    exact pm_irI rfl rfl
  refine pm_isw (fun _ => ?_) (fun _ => ?_)
  · show pm_Im _ _ _ _ _ _ (59, [some (.ref 49), some (.int a1), none, none], [], M)
    refine pm_irun 2 (σ' := (61, [some (.ref 49), some (.int a1), some (.int (0 : Int32)), none], [], M)) rfl ?_
    refine pm_irun 2 (σ' := (63, [some (.ref 49), some (.int a1), some (.int (0 : Int32)), some (.int (0 : Int32))], [], M)) rfl ?_
    refine pm_iwk (al' := [some (.ref 49), none, some (.int (0 : Int32)), some (.int (0 : Int32))]) (pm_wkS (pm_wkN (pm_wkS (pm_wkS pm_wk0)))) ?_
    refine pm_iloop (fun (g : Int32 → Int32 → pm_M → Option (Int32 × pm_M)) => ∀ (x3 : Int32) (x4 : Int32) (M2 : pm_M), I_R_count (g x3 x4 M2) (63, [some (.ref 49), none, some (.int x3), some (.int x4)], [], M2)) (fun _ _ _ => pm_inone) (fun g1 hg1 x3 x4 M2 => ?_) 1000000 _ _ _
    show I_R_count _ (63, [some (.ref 49), none, some (.int x3), some (.int x4)], [], M2)
    refine pm_irun 2 (σ' := (66, [some (.ref 49), none, some (.int x3), some (.int x4)], [.int (50 : Int32), .int x4], M2)) rfl ?_
    refine pm_iite (σ1 := (87, [some (.ref 49), none, some (.int x3), some (.int x4)], [], M2)) (σ2 := (69, [some (.ref 49), none, some (.int x3), some (.int x4)], [], M2)) rfl (fun _ => ?_) (fun _ => ?_)
    · refine pm_irun 1 (σ' := (88, [some (.ref 49), none, some (.int x3), some (.int x4)], [.int x3], M2)) rfl ?_
      exact pm_irI rfl rfl
    · refine pm_irun 3 (σ' := (74, [some (.ref 49), none, some (.int x3), some (.int x4)], [.int x4, .ref 54], M2)) rfl ?_
      refine pm_igd (σ1 := (75, [some (.ref 49), none, some (.int x3), some (.int x4)], [.int (M2.1 54 x4.toNatClampNeg)], M2)) rfl (fun _ => ?_)
      refine pm_iite (σ1 := (81, [some (.ref 49), none, some (.int x3), some (.int x4)], [], M2)) (σ2 := (78, [some (.ref 49), none, some (.int x3), some (.int x4)], [], M2)) rfl (fun _ => ?_) (fun _ => ?_)
      · refine pm_irun 1 (σ' := (84, [some (.ref 49), none, some (.int x3), some (.int (x4 + (1 : Int32)))], [], M2)) rfl ?_
        refine pm_ilt (fun y => (84, [some (.ref 49), none, some (.int x3), some (.int y)], [], M2)) (fun x5 => ?_)
        refine pm_irun 1 (σ' := (63, [some (.ref 49), none, some (.int x3), some (.int x5)], [], M2)) rfl ?_
        exact hg1 _ _ _
      · refine pm_irun 1 (σ' := (81, [some (.ref 49), none, some (.int (x3 + (1 : Int32))), some (.int x4)], [], M2)) rfl ?_
        refine pm_ilt (fun y => (81, [some (.ref 49), none, some (.int y), some (.int x4)], [], M2)) (fun x6 => ?_)
        refine pm_irun 1 (σ' := (84, [some (.ref 49), none, some (.int x6), some (.int (x4 + (1 : Int32)))], [], M2)) rfl ?_
        refine pm_ilt (fun y => (84, [some (.ref 49), none, some (.int x6), some (.int y)], [], M2)) (fun x7 => ?_)
        refine pm_irun 1 (σ' := (63, [some (.ref 49), none, some (.int x6), some (.int x7)], [], M2)) rfl ?_
        exact hg1 _ _ _
  refine pm_isw (fun _ => ?_) (fun _ => ?_)
  · show pm_Im _ _ _ _ _ _ (89, [some (.ref 49), some (.int a1), none, none], [], M)
    refine pm_irun 1 (σ' := (90, [some (.ref 49), some (.int a1), none, none], [.ref 49], M)) rfl ?_
    refine pm_icI (as := [.ref 49]) (rest := []) rfl rfl rfl rfl (Nat.le_of_ble_eq_true rfl) rfl (fun r h => pm_Ev_mono (Nat.le_of_ble_eq_true rfl) (sR_inTruth_ok M r h)) (fun v9 M8 => ?_)
    show pm_Im _ _ _ _ _ _ (93, [some (.ref 49), some (.int a1), none, none], [.int v9], M8)
    exact pm_irI rfl rfl
  refine pm_isw (fun _ => ?_) (fun _ => ?_)
  · show pm_Im _ _ _ _ _ _ (94, [some (.ref 49), some (.int a1), none, none], [], M)
    refine pm_irun 2 (σ' := (98, [some (.ref 49), some (.int a1), none, none], [.int (M.1 49 23)], M)) rfl ?_
    exact pm_irI rfl rfl
  refine pm_isw (fun _ => ?_) (fun _ => ?_)
  · show pm_Im _ _ _ _ _ _ (99, [some (.ref 49), some (.int a1), none, none], [], M)
    refine pm_irun 2 (σ' := (103, [some (.ref 49), some (.int a1), none, none], [.int (M.1 49 9)], M)) rfl ?_
    exact pm_irI rfl rfl
  show pm_Im _ _ _ _ _ _ (104, [some (.ref 49), some (.int a1), none, none], [], M)
  refine pm_irun 1 (σ' := (106, [some (.ref 49), some (.int a1), none, none], [.int (-2 : Int32)], M)) rfl ?_
  exact pm_irI rfl rfl
def sC_isSort (a1 : Int32) (M : pm_M) : Option (Int32 × pm_M) := if a1 < 0 then (some ((0 : Int32), M)) else (if (2 : Int32) < a1 then (some ((0 : Int32), M)) else (some ((1 : Int32), M)))
abbrev I_C_isSort (sh : Option (Int32 × pm_M)) (σ : pm_St) : Prop := pm_Im none (pm_Ev 0) pm_T101 (some .boolean) pm_rI sh σ
set_option maxHeartbeats 4000000 in
set_option maxRecDepth 100000 in
theorem sC_isSort_ok (a1 : Int32) (M : pm_M) : ∀ r, sC_isSort a1 M = some r → pm_Ev 1 101 [.int a1] M (pm_rI r).1 (pm_rI r).2 := by
  refine pm_meth (al := [some (.int a1)]) rfl rfl rfl rfl rfl ?_
  unfold sC_isSort
  show I_C_isSort _ (0, [some (.int a1)], [], M)
  refine pm_irun 1 (σ' := (1, [some (.int a1)], [.int a1], M)) rfl ?_
  refine pm_iite (σ1 := (13, [some (.int a1)], [], M)) (σ2 := (4, [some (.int a1)], [], M)) rfl (fun _ => ?_) (fun _ => ?_)
  · refine pm_irun 1 (σ' := (14, [some (.int a1)], [.int (0 : Int32)], M)) rfl ?_
    exact pm_irZ (Or.inl rfl) rfl rfl
  · refine pm_irun 2 (σ' := (6, [some (.int a1)], [.int (2 : Int32), .int a1], M)) rfl ?_
    refine pm_iite (σ1 := (13, [some (.int a1)], [], M)) (σ2 := (9, [some (.int a1)], [], M)) rfl (fun _ => ?_) (fun _ => ?_)
    · refine pm_irun 1 (σ' := (14, [some (.int a1)], [.int (0 : Int32)], M)) rfl ?_
      exact pm_irZ (Or.inl rfl) rfl rfl
    · refine pm_irun 2 (σ' := (14, [some (.int a1)], [.int (1 : Int32)], M)) rfl ?_
      exact pm_irZ (Or.inr rfl) rfl rfl
def sC_sheet (a1 : Int32) (a2 : Int32) (a3 : Int32) (M : pm_M) : Option (Int32 × pm_M) := pm_bd (sC_isSheet a1 M) fun v2 M1 => if v2 = 0 then (some ((-2 : Int32), M1)) else (pm_jn (fun (M4 : pm_M) => if ¬ a2 = (-1 : Int32) then (if a3 ≤ (40 : Int32) then (if 0 ≤ a3 then (if a1 = 0 then (pm_bv (sSheet_become_40 a2 a3 M4) fun M5 => some ((1 : Int32), M5)) else if a1 = 1 then (pm_bv (sSheet_become_42 a2 a3 M4) fun M6 => some ((1 : Int32), M6)) else if a1 = 2 then (pm_bv (sSheet_become_44 a2 a3 M4) fun M7 => some ((1 : Int32), M7)) else if a1 = 3 then (pm_bv (sSheet_become_46 a2 a3 M4) fun M8 => some ((1 : Int32), M8)) else none) else (some ((-14 : Int32), M4))) else (some ((-2 : Int32), M4))) else (if a1 = 0 then (pm_bv (sSheet_become_40 (-1 : Int32) (0 : Int32) M4) fun M9 => some ((1 : Int32), M9)) else if a1 = 1 then (pm_bv (sSheet_become_42 (-1 : Int32) (0 : Int32) M4) fun M10 => some ((1 : Int32), M10)) else if a1 = 2 then (pm_bv (sSheet_become_44 (-1 : Int32) (0 : Int32) M4) fun M11 => some ((1 : Int32), M11)) else if a1 = 3 then (pm_bv (sSheet_become_46 (-1 : Int32) (0 : Int32) M4) fun M12 => some ((1 : Int32), M12)) else none)) fun (j3 : pm_M → Option (Int32 × pm_M)) => if a2 = (-1 : Int32) then (j3 M1) else (pm_bd (sC_isSort a2 M1) fun v14 M13 => if ¬ v14 = 0 then (j3 M13) else (some ((-2 : Int32), M13))))
abbrev I_C_sheet (sh : Option (Int32 × pm_M)) (σ : pm_St) : Prop := pm_Im none (pm_Ev 2) pm_T90 (some .int) pm_rI sh σ
set_option maxHeartbeats 4000000 in
set_option maxRecDepth 100000 in
theorem sC_sheet_ok (a1 : Int32) (a2 : Int32) (a3 : Int32) (M : pm_M) : ∀ r, sC_sheet a1 a2 a3 M = some r → pm_Ev 3 90 [.ref 0, .int a1, .int a2, .int a3] M (pm_rI r).1 (pm_rI r).2 := by
  refine pm_meth (al := [some (.ref 0), some (.int a1), some (.int a2), some (.int a3)]) rfl rfl rfl rfl rfl ?_
  unfold sC_sheet
  show I_C_sheet _ (0, [some (.ref 0), some (.int a1), some (.int a2), some (.int a3)], [], M)
  refine pm_irun 1 (σ' := (1, [some (.ref 0), some (.int a1), some (.int a2), some (.int a3)], [.int a1], M)) rfl ?_
  refine pm_icI (as := [.int a1]) (rest := []) rfl rfl rfl rfl (Nat.le_of_ble_eq_true rfl) rfl (fun r h => pm_Ev_mono (Nat.le_of_ble_eq_true rfl) (sC_isSheet_ok a1 M r h)) (fun v2 M1 => ?_)
  show pm_Im _ _ _ _ _ _ (4, [some (.ref 0), some (.int a1), some (.int a2), some (.int a3)], [.int v2], M1)
  refine pm_iite (σ1 := (19, [some (.ref 0), some (.int a1), some (.int a2), some (.int a3)], [], M1)) (σ2 := (7, [some (.ref 0), some (.int a1), some (.int a2), some (.int a3)], [], M1)) rfl (fun _ => ?_) (fun _ => ?_)
  · refine pm_irun 1 (σ' := (21, [some (.ref 0), some (.int a1), some (.int a2), some (.int a3)], [.int (-2 : Int32)], M1)) rfl ?_
    exact pm_irI rfl rfl
  · refine pm_irun 2 (σ' := (9, [some (.ref 0), some (.int a1), some (.int a2), some (.int a3)], [.int (-1 : Int32), .int a2], M1)) rfl ?_
    refine pm_ijn (fun (g : pm_M → Option (Int32 × pm_M)) => ∀ (M4 : pm_M), I_C_sheet (g M4) (22, [some (.ref 0), some (.int a1), some (.int a2), some (.int a3)], [], M4)) (fun (M4 : pm_M) => ?_) (fun j3 hj3 => ?_)
    · show I_C_sheet _ (22, [some (.ref 0), some (.int a1), some (.int a2), some (.int a3)], [], M4)
      refine pm_irun 2 (σ' := (24, [some (.ref 0), some (.int a1), some (.int a2), some (.int a3)], [.int (-1 : Int32), .int a2], M4)) rfl ?_
      refine pm_iite (σ1 := (40, [some (.ref 0), some (.int a1), some (.int a2), some (.int a3)], [], M4)) (σ2 := (27, [some (.ref 0), some (.int a1), some (.int a2), some (.int a3)], [], M4)) rfl (fun _ => ?_) (fun _ => ?_)
      · refine pm_irun 2 (σ' := (43, [some (.ref 0), some (.int a1), some (.int a2), some (.int a3)], [.int (40 : Int32), .int a3], M4)) rfl ?_
        refine pm_iite (σ1 := (49, [some (.ref 0), some (.int a1), some (.int a2), some (.int a3)], [], M4)) (σ2 := (46, [some (.ref 0), some (.int a1), some (.int a2), some (.int a3)], [], M4)) rfl (fun _ => ?_) (fun _ => ?_)
        · refine pm_irun 1 (σ' := (50, [some (.ref 0), some (.int a1), some (.int a2), some (.int a3)], [.int a3], M4)) rfl ?_
          refine pm_iite (σ1 := (56, [some (.ref 0), some (.int a1), some (.int a2), some (.int a3)], [], M4)) (σ2 := (53, [some (.ref 0), some (.int a1), some (.int a2), some (.int a3)], [], M4)) rfl (fun _ => ?_) (fun _ => ?_)
          · refine pm_irun 3 (σ' := (61, [some (.ref 0), some (.int a1), some (.int a2), some (.int a3)], [.int a1, .ref 39], M4)) rfl ?_
            refine pm_iaal rfl ?_ ?_ ?_ ?_
            · show pm_Im _ _ _ _ _ _ (62, [some (.ref 0), some (.int a1), some (.int a2), some (.int a3)], [.ref 40], M4)
              refine pm_irun 2 (σ' := (64, [some (.ref 0), some (.int a1), some (.int a2), some (.int a3)], [.int a3, .int a2, .ref 40], M4)) rfl ?_
              refine pm_icV (as := [.ref 40, .int a2, .int a3]) (rest := []) rfl rfl rfl rfl (Nat.le_of_ble_eq_true rfl) rfl (fun r h => pm_Ev_mono (Nat.le_of_ble_eq_true rfl) (sSheet_become_40_ok a2 a3 M4 r h)) (fun M5 => ?_)
              show pm_Im _ _ _ _ _ _ (67, [some (.ref 0), some (.int a1), some (.int a2), some (.int a3)], [], M5)
              refine pm_irun 1 (σ' := (68, [some (.ref 0), some (.int a1), some (.int a2), some (.int a3)], [.int (1 : Int32)], M5)) rfl ?_
              exact pm_irI rfl rfl
            · show pm_Im _ _ _ _ _ _ (62, [some (.ref 0), some (.int a1), some (.int a2), some (.int a3)], [.ref 42], M4)
              refine pm_irun 2 (σ' := (64, [some (.ref 0), some (.int a1), some (.int a2), some (.int a3)], [.int a3, .int a2, .ref 42], M4)) rfl ?_
              refine pm_icV (as := [.ref 42, .int a2, .int a3]) (rest := []) rfl rfl rfl rfl (Nat.le_of_ble_eq_true rfl) rfl (fun r h => pm_Ev_mono (Nat.le_of_ble_eq_true rfl) (sSheet_become_42_ok a2 a3 M4 r h)) (fun M6 => ?_)
              show pm_Im _ _ _ _ _ _ (67, [some (.ref 0), some (.int a1), some (.int a2), some (.int a3)], [], M6)
              refine pm_irun 1 (σ' := (68, [some (.ref 0), some (.int a1), some (.int a2), some (.int a3)], [.int (1 : Int32)], M6)) rfl ?_
              exact pm_irI rfl rfl
            · show pm_Im _ _ _ _ _ _ (62, [some (.ref 0), some (.int a1), some (.int a2), some (.int a3)], [.ref 44], M4)
              refine pm_irun 2 (σ' := (64, [some (.ref 0), some (.int a1), some (.int a2), some (.int a3)], [.int a3, .int a2, .ref 44], M4)) rfl ?_
              refine pm_icV (as := [.ref 44, .int a2, .int a3]) (rest := []) rfl rfl rfl rfl (Nat.le_of_ble_eq_true rfl) rfl (fun r h => pm_Ev_mono (Nat.le_of_ble_eq_true rfl) (sSheet_become_44_ok a2 a3 M4 r h)) (fun M7 => ?_)
              show pm_Im _ _ _ _ _ _ (67, [some (.ref 0), some (.int a1), some (.int a2), some (.int a3)], [], M7)
              refine pm_irun 1 (σ' := (68, [some (.ref 0), some (.int a1), some (.int a2), some (.int a3)], [.int (1 : Int32)], M7)) rfl ?_
              exact pm_irI rfl rfl
            · show pm_Im _ _ _ _ _ _ (62, [some (.ref 0), some (.int a1), some (.int a2), some (.int a3)], [.ref 46], M4)
              refine pm_irun 2 (σ' := (64, [some (.ref 0), some (.int a1), some (.int a2), some (.int a3)], [.int a3, .int a2, .ref 46], M4)) rfl ?_
              refine pm_icV (as := [.ref 46, .int a2, .int a3]) (rest := []) rfl rfl rfl rfl (Nat.le_of_ble_eq_true rfl) rfl (fun r h => pm_Ev_mono (Nat.le_of_ble_eq_true rfl) (sSheet_become_46_ok a2 a3 M4 r h)) (fun M8 => ?_)
              show pm_Im _ _ _ _ _ _ (67, [some (.ref 0), some (.int a1), some (.int a2), some (.int a3)], [], M8)
              refine pm_irun 1 (σ' := (68, [some (.ref 0), some (.int a1), some (.int a2), some (.int a3)], [.int (1 : Int32)], M8)) rfl ?_
              exact pm_irI rfl rfl
          · refine pm_irun 1 (σ' := (55, [some (.ref 0), some (.int a1), some (.int a2), some (.int a3)], [.int (-14 : Int32)], M4)) rfl ?_
            exact pm_irI rfl rfl
        · refine pm_irun 1 (σ' := (48, [some (.ref 0), some (.int a1), some (.int a2), some (.int a3)], [.int (-2 : Int32)], M4)) rfl ?_
          exact pm_irI rfl rfl
      · refine pm_irun 3 (σ' := (32, [some (.ref 0), some (.int a1), some (.int a2), some (.int a3)], [.int a1, .ref 39], M4)) rfl ?_
        refine pm_iaal rfl ?_ ?_ ?_ ?_
        · show pm_Im _ _ _ _ _ _ (33, [some (.ref 0), some (.int a1), some (.int a2), some (.int a3)], [.ref 40], M4)
          refine pm_irun 2 (σ' := (35, [some (.ref 0), some (.int a1), some (.int a2), some (.int a3)], [.int (0 : Int32), .int (-1 : Int32), .ref 40], M4)) rfl ?_
          refine pm_icV (as := [.ref 40, .int (-1 : Int32), .int (0 : Int32)]) (rest := []) rfl rfl rfl rfl (Nat.le_of_ble_eq_true rfl) rfl (fun r h => pm_Ev_mono (Nat.le_of_ble_eq_true rfl) (sSheet_become_40_ok (-1 : Int32) (0 : Int32) M4 r h)) (fun M9 => ?_)
          show pm_Im _ _ _ _ _ _ (38, [some (.ref 0), some (.int a1), some (.int a2), some (.int a3)], [], M9)
          refine pm_irun 1 (σ' := (39, [some (.ref 0), some (.int a1), some (.int a2), some (.int a3)], [.int (1 : Int32)], M9)) rfl ?_
          exact pm_irI rfl rfl
        · show pm_Im _ _ _ _ _ _ (33, [some (.ref 0), some (.int a1), some (.int a2), some (.int a3)], [.ref 42], M4)
          refine pm_irun 2 (σ' := (35, [some (.ref 0), some (.int a1), some (.int a2), some (.int a3)], [.int (0 : Int32), .int (-1 : Int32), .ref 42], M4)) rfl ?_
          refine pm_icV (as := [.ref 42, .int (-1 : Int32), .int (0 : Int32)]) (rest := []) rfl rfl rfl rfl (Nat.le_of_ble_eq_true rfl) rfl (fun r h => pm_Ev_mono (Nat.le_of_ble_eq_true rfl) (sSheet_become_42_ok (-1 : Int32) (0 : Int32) M4 r h)) (fun M10 => ?_)
          show pm_Im _ _ _ _ _ _ (38, [some (.ref 0), some (.int a1), some (.int a2), some (.int a3)], [], M10)
          refine pm_irun 1 (σ' := (39, [some (.ref 0), some (.int a1), some (.int a2), some (.int a3)], [.int (1 : Int32)], M10)) rfl ?_
          exact pm_irI rfl rfl
        · show pm_Im _ _ _ _ _ _ (33, [some (.ref 0), some (.int a1), some (.int a2), some (.int a3)], [.ref 44], M4)
          refine pm_irun 2 (σ' := (35, [some (.ref 0), some (.int a1), some (.int a2), some (.int a3)], [.int (0 : Int32), .int (-1 : Int32), .ref 44], M4)) rfl ?_
          refine pm_icV (as := [.ref 44, .int (-1 : Int32), .int (0 : Int32)]) (rest := []) rfl rfl rfl rfl (Nat.le_of_ble_eq_true rfl) rfl (fun r h => pm_Ev_mono (Nat.le_of_ble_eq_true rfl) (sSheet_become_44_ok (-1 : Int32) (0 : Int32) M4 r h)) (fun M11 => ?_)
          show pm_Im _ _ _ _ _ _ (38, [some (.ref 0), some (.int a1), some (.int a2), some (.int a3)], [], M11)
          refine pm_irun 1 (σ' := (39, [some (.ref 0), some (.int a1), some (.int a2), some (.int a3)], [.int (1 : Int32)], M11)) rfl ?_
          exact pm_irI rfl rfl
        · show pm_Im _ _ _ _ _ _ (33, [some (.ref 0), some (.int a1), some (.int a2), some (.int a3)], [.ref 46], M4)
          refine pm_irun 2 (σ' := (35, [some (.ref 0), some (.int a1), some (.int a2), some (.int a3)], [.int (0 : Int32), .int (-1 : Int32), .ref 46], M4)) rfl ?_
          refine pm_icV (as := [.ref 46, .int (-1 : Int32), .int (0 : Int32)]) (rest := []) rfl rfl rfl rfl (Nat.le_of_ble_eq_true rfl) rfl (fun r h => pm_Ev_mono (Nat.le_of_ble_eq_true rfl) (sSheet_become_46_ok (-1 : Int32) (0 : Int32) M4 r h)) (fun M12 => ?_)
          show pm_Im _ _ _ _ _ _ (38, [some (.ref 0), some (.int a1), some (.int a2), some (.int a3)], [], M12)
          refine pm_irun 1 (σ' := (39, [some (.ref 0), some (.int a1), some (.int a2), some (.int a3)], [.int (1 : Int32)], M12)) rfl ?_
          exact pm_irI rfl rfl
    refine pm_iite (σ1 := (22, [some (.ref 0), some (.int a1), some (.int a2), some (.int a3)], [], M1)) (σ2 := (12, [some (.ref 0), some (.int a1), some (.int a2), some (.int a3)], [], M1)) rfl (fun _ => ?_) (fun _ => ?_)
    · exact hj3 _
    · refine pm_irun 1 (σ' := (13, [some (.ref 0), some (.int a1), some (.int a2), some (.int a3)], [.int a2], M1)) rfl ?_
      refine pm_icI (as := [.int a2]) (rest := []) rfl rfl rfl rfl (Nat.le_of_ble_eq_true rfl) rfl (fun r h => pm_Ev_mono (Nat.le_of_ble_eq_true rfl) (sC_isSort_ok a2 M1 r h)) (fun v14 M13 => ?_)
      show pm_Im _ _ _ _ _ _ (16, [some (.ref 0), some (.int a1), some (.int a2), some (.int a3)], [.int v14], M13)
      refine pm_iite (σ1 := (22, [some (.ref 0), some (.int a1), some (.int a2), some (.int a3)], [], M13)) (σ2 := (19, [some (.ref 0), some (.int a1), some (.int a2), some (.int a3)], [], M13)) rfl (fun _ => ?_) (fun _ => ?_)
      · exact hj3 _
      · refine pm_irun 1 (σ' := (21, [some (.ref 0), some (.int a1), some (.int a2), some (.int a3)], [.int (-2 : Int32)], M13)) rfl ?_
        exact pm_irI rfl rfl
def sR_sheet (a1 : Int32) (a2 : Int32) (a3 : Int32) (M : pm_M) : Option (Int32 × pm_M) := pm_bd (sR_isSheet a1 M) fun v2 M1 => if v2 = 0 then (some ((-2 : Int32), M1)) else (pm_bd (sR_in (a2.toInt64) (-1 : Int64) (2 : Int64) M1) fun v4 M3 => if v4 = 0 then (some ((-2 : Int32), M3)) else (pm_jn (fun (M6 : pm_M) => pm_jn (fun (M8 : pm_M) => if pm_in a1 4 then (pm_lt (pm_sI M8 78 a1.toNatClampNeg a2) fun M9 => pm_jn (fun (q12 : Int32) (M11 : pm_M) => if pm_in a1 4 then (pm_lt (pm_sI M11 79 a1.toNatClampNeg q12) fun M13 => pm_loop (fun _ _ => none) (fun (g14 : Int32 → pm_M → Option (Int32 × pm_M)) x16 M15 => if (40 : Int32) ≤ x16 then (some ((1 : Int32), M15)) else (if pm_in (((40 : Int32) * a1) + x16) 160 then (pm_lt (pm_sL M15 80 (((40 : Int32) * a1) + x16).toNatClampNeg (0 : Int64)) fun M17 => pm_lt ((x16 + (1 : Int32))) fun x18 => g14 x18 M17) else none)) 1000000 (0 : Int32) M13) else none) fun (j10 : Int32 → pm_M → Option (Int32 × pm_M)) => if ¬ a2 = (-1 : Int32) then (j10 a3 M9) else (j10 (0 : Int32) M9)) else none) fun (j7 : pm_M → Option (Int32 × pm_M)) => if a2 = (-1 : Int32) then (j7 M6) else (if 0 ≤ a3 then (j7 M6) else (some ((-14 : Int32), M6)))) fun (j5 : pm_M → Option (Int32 × pm_M)) => if a2 = (-1 : Int32) then (j5 M3) else (if a3 ≤ (40 : Int32) then (j5 M3) else (some ((-2 : Int32), M3)))))
abbrev I_R_sheet (sh : Option (Int32 × pm_M)) (σ : pm_St) : Prop := pm_Im none (pm_Ev 2) pm_T200 (some .int) pm_rI sh σ
set_option maxHeartbeats 4000000 in
set_option maxRecDepth 100000 in
theorem sR_sheet_ok (a1 : Int32) (a2 : Int32) (a3 : Int32) (M : pm_M) : ∀ r, sR_sheet a1 a2 a3 M = some r → pm_Ev 3 200 [.ref 49, .int a1, .int a2, .int a3] M (pm_rI r).1 (pm_rI r).2 := by
  refine pm_meth (al := [some (.ref 49), some (.int a1), some (.int a2), some (.int a3), none]) rfl rfl rfl rfl rfl ?_
  unfold sR_sheet
  show I_R_sheet _ (0, [some (.ref 49), some (.int a1), some (.int a2), some (.int a3), none], [], M)
  refine pm_irun 1 (σ' := (1, [some (.ref 49), some (.int a1), some (.int a2), some (.int a3), none], [.int a1], M)) rfl ?_
  refine pm_icI (as := [.int a1]) (rest := []) rfl rfl rfl rfl (Nat.le_of_ble_eq_true rfl) rfl (fun r h => pm_Ev_mono (Nat.le_of_ble_eq_true rfl) (sR_isSheet_ok a1 M r h)) (fun v2 M1 => ?_)
  show pm_Im _ _ _ _ _ _ (4, [some (.ref 49), some (.int a1), some (.int a2), some (.int a3), none], [.int v2], M1)
  refine pm_iite (σ1 := (32, [some (.ref 49), some (.int a1), some (.int a2), some (.int a3), none], [], M1)) (σ2 := (7, [some (.ref 49), some (.int a1), some (.int a2), some (.int a3), none], [], M1)) rfl (fun _ => ?_) (fun _ => ?_)
  · refine pm_irun 1 (σ' := (34, [some (.ref 49), some (.int a1), some (.int a2), some (.int a3), none], [.int (-2 : Int32)], M1)) rfl ?_
    exact pm_irI rfl rfl
  · refine pm_irun 4 (σ' := (15, [some (.ref 49), some (.int a1), some (.int a2), some (.int a3), none], [.long (2 : Int64), .long (-1 : Int64), .long a2.toInt64], M1)) rfl ?_
    refine pm_icI (as := [.long a2.toInt64, .long (-1 : Int64), .long (2 : Int64)]) (rest := []) rfl rfl rfl rfl (Nat.le_of_ble_eq_true rfl) rfl (fun r h => pm_Ev_mono (Nat.le_of_ble_eq_true rfl) (sR_in_ok (a2.toInt64) (-1 : Int64) (2 : Int64) M1 r h)) (fun v4 M3 => ?_)
    show pm_Im _ _ _ _ _ _ (18, [some (.ref 49), some (.int a1), some (.int a2), some (.int a3), none], [.int v4], M3)
    refine pm_iite (σ1 := (32, [some (.ref 49), some (.int a1), some (.int a2), some (.int a3), none], [], M3)) (σ2 := (21, [some (.ref 49), some (.int a1), some (.int a2), some (.int a3), none], [], M3)) rfl (fun _ => ?_) (fun _ => ?_)
    · refine pm_irun 1 (σ' := (34, [some (.ref 49), some (.int a1), some (.int a2), some (.int a3), none], [.int (-2 : Int32)], M3)) rfl ?_
      exact pm_irI rfl rfl
    · refine pm_irun 2 (σ' := (23, [some (.ref 49), some (.int a1), some (.int a2), some (.int a3), none], [.int (-1 : Int32), .int a2], M3)) rfl ?_
      refine pm_ijn (fun (g : pm_M → Option (Int32 × pm_M)) => ∀ (M6 : pm_M), I_R_sheet (g M6) (35, [some (.ref 49), some (.int a1), some (.int a2), some (.int a3), none], [], M6)) (fun (M6 : pm_M) => ?_) (fun j5 hj5 => ?_)
      · show I_R_sheet _ (35, [some (.ref 49), some (.int a1), some (.int a2), some (.int a3), none], [], M6)
        refine pm_irun 2 (σ' := (37, [some (.ref 49), some (.int a1), some (.int a2), some (.int a3), none], [.int (-1 : Int32), .int a2], M6)) rfl ?_
        refine pm_ijn (fun (g : pm_M → Option (Int32 × pm_M)) => ∀ (M8 : pm_M), I_R_sheet (g M8) (47, [some (.ref 49), some (.int a1), some (.int a2), some (.int a3), none], [], M8)) (fun (M8 : pm_M) => ?_) (fun j7 hj7 => ?_)
        · show I_R_sheet _ (47, [some (.ref 49), some (.int a1), some (.int a2), some (.int a3), none], [], M8)
          refine pm_irun 4 (σ' := (53, [some (.ref 49), some (.int a1), some (.int a2), some (.int a3), none], [.int a2, .int a1, .ref 78], M8)) rfl ?_
          refine pm_igd (σ1 := (54, [some (.ref 49), some (.int a1), some (.int a2), some (.int a3), none], [], (pm_sI M8 78 a1.toNatClampNeg a2))) rfl (fun _ => ?_)
          refine pm_ilt (fun y => (54, [some (.ref 49), some (.int a1), some (.int a2), some (.int a3), none], [], y)) (fun M9 => ?_)
          refine pm_irun 5 (σ' := (61, [some (.ref 49), some (.int a1), some (.int a2), some (.int a3), none], [.int (-1 : Int32), .int a2, .int a1, .ref 79], M9)) rfl ?_
          refine pm_ijn (fun (g : Int32 → pm_M → Option (Int32 × pm_M)) => ∀ (q12 : Int32) (M11 : pm_M), I_R_sheet (g q12 M11) (69, [some (.ref 49), some (.int a1), none, none, none], [.int q12, .int a1, .ref 79], M11)) (fun (q12 : Int32) (M11 : pm_M) => ?_) (fun j10 hj10 => ?_)
          · show I_R_sheet _ (69, [some (.ref 49), some (.int a1), none, none, none], [.int q12, .int a1, .ref 79], M11)
            refine pm_igd (σ1 := (70, [some (.ref 49), some (.int a1), none, none, none], [], (pm_sI M11 79 a1.toNatClampNeg q12))) rfl (fun _ => ?_)
            refine pm_ilt (fun y => (70, [some (.ref 49), some (.int a1), none, none, none], [], y)) (fun M13 => ?_)
            refine pm_irun 2 (σ' := (73, [some (.ref 49), some (.int a1), none, none, some (.int (0 : Int32))], [], M13)) rfl ?_
            refine pm_iloop (fun (g : Int32 → pm_M → Option (Int32 × pm_M)) => ∀ (x16 : Int32) (M15 : pm_M), I_R_sheet (g x16 M15) (73, [some (.ref 49), some (.int a1), none, none, some (.int x16)], [], M15)) (fun _ _ => pm_inone) (fun g14 hg14 x16 M15 => ?_) 1000000 _ _
            show I_R_sheet _ (73, [some (.ref 49), some (.int a1), none, none, some (.int x16)], [], M15)
            refine pm_irun 2 (σ' := (77, [some (.ref 49), some (.int a1), none, none, some (.int x16)], [.int (40 : Int32), .int x16], M15)) rfl ?_
            refine pm_iite (σ1 := (99, [some (.ref 49), some (.int a1), none, none, some (.int x16)], [], M15)) (σ2 := (80, [some (.ref 49), some (.int a1), none, none, some (.int x16)], [], M15)) rfl (fun _ => ?_) (fun _ => ?_)
            · refine pm_irun 1 (σ' := (100, [some (.ref 49), some (.int a1), none, none, some (.int x16)], [.int (1 : Int32)], M15)) rfl ?_
              exact pm_irI rfl rfl
            · refine pm_irun 8 (σ' := (92, [some (.ref 49), some (.int a1), none, none, some (.int x16)], [.long (0 : Int64), .int (((40 : Int32) * a1) + x16), .ref 80], M15)) rfl ?_
              refine pm_igd (σ1 := (93, [some (.ref 49), some (.int a1), none, none, some (.int x16)], [], (pm_sL M15 80 (((40 : Int32) * a1) + x16).toNatClampNeg (0 : Int64)))) rfl (fun _ => ?_)
              refine pm_ilt (fun y => (93, [some (.ref 49), some (.int a1), none, none, some (.int x16)], [], y)) (fun M17 => ?_)
              refine pm_irun 1 (σ' := (96, [some (.ref 49), some (.int a1), none, none, some (.int (x16 + (1 : Int32)))], [], M17)) rfl ?_
              refine pm_ilt (fun y => (96, [some (.ref 49), some (.int a1), none, none, some (.int y)], [], M17)) (fun x18 => ?_)
              refine pm_irun 1 (σ' := (73, [some (.ref 49), some (.int a1), none, none, some (.int x18)], [], M17)) rfl ?_
              exact hg14 _ _
          refine pm_iite (σ1 := (68, [some (.ref 49), some (.int a1), some (.int a2), some (.int a3), none], [.int a1, .ref 79], M9)) (σ2 := (64, [some (.ref 49), some (.int a1), some (.int a2), some (.int a3), none], [.int a1, .ref 79], M9)) rfl (fun _ => ?_) (fun _ => ?_)
          · refine pm_irun 1 (σ' := (69, [some (.ref 49), some (.int a1), some (.int a2), some (.int a3), none], [.int a3, .int a1, .ref 79], M9)) rfl ?_
            refine pm_iwk (al' := [some (.ref 49), some (.int a1), none, none, none]) (pm_wkS (pm_wkS (pm_wkN (pm_wkN (pm_wkS pm_wk0))))) ?_
            exact hj10 _ _
          · refine pm_irun 2 (σ' := (69, [some (.ref 49), some (.int a1), some (.int a2), some (.int a3), none], [.int (0 : Int32), .int a1, .ref 79], M9)) rfl ?_
            refine pm_iwk (al' := [some (.ref 49), some (.int a1), none, none, none]) (pm_wkS (pm_wkS (pm_wkN (pm_wkN (pm_wkS pm_wk0))))) ?_
            exact hj10 _ _
        refine pm_iite (σ1 := (47, [some (.ref 49), some (.int a1), some (.int a2), some (.int a3), none], [], M6)) (σ2 := (40, [some (.ref 49), some (.int a1), some (.int a2), some (.int a3), none], [], M6)) rfl (fun _ => ?_) (fun _ => ?_)
        · exact hj7 _
        · refine pm_irun 1 (σ' := (41, [some (.ref 49), some (.int a1), some (.int a2), some (.int a3), none], [.int a3], M6)) rfl ?_
          refine pm_iite (σ1 := (47, [some (.ref 49), some (.int a1), some (.int a2), some (.int a3), none], [], M6)) (σ2 := (44, [some (.ref 49), some (.int a1), some (.int a2), some (.int a3), none], [], M6)) rfl (fun _ => ?_) (fun _ => ?_)
          · exact hj7 _
          · refine pm_irun 1 (σ' := (46, [some (.ref 49), some (.int a1), some (.int a2), some (.int a3), none], [.int (-14 : Int32)], M6)) rfl ?_
            exact pm_irI rfl rfl
      refine pm_iite (σ1 := (35, [some (.ref 49), some (.int a1), some (.int a2), some (.int a3), none], [], M3)) (σ2 := (26, [some (.ref 49), some (.int a1), some (.int a2), some (.int a3), none], [], M3)) rfl (fun _ => ?_) (fun _ => ?_)
      · exact hj5 _
      · refine pm_irun 2 (σ' := (29, [some (.ref 49), some (.int a1), some (.int a2), some (.int a3), none], [.int (40 : Int32), .int a3], M3)) rfl ?_
        refine pm_iite (σ1 := (35, [some (.ref 49), some (.int a1), some (.int a2), some (.int a3), none], [], M3)) (σ2 := (32, [some (.ref 49), some (.int a1), some (.int a2), some (.int a3), none], [], M3)) rfl (fun _ => ?_) (fun _ => ?_)
        · exact hj5 _
        · refine pm_irun 1 (σ' := (34, [some (.ref 49), some (.int a1), some (.int a2), some (.int a3), none], [.int (-2 : Int32)], M3)) rfl ?_
          exact pm_irI rfl rfl
def sSheet_hasItem_40 (a1 : Int32) (M : pm_M) : Option (Int32 × pm_M) := if a1 < 0 then (some ((0 : Int32), M)) else (if (M.1 40 1) ≤ a1 then (some ((0 : Int32), M)) else (some ((1 : Int32), M)))
abbrev I_Sheet_hasItem_40 (sh : Option (Int32 × pm_M)) (σ : pm_St) : Prop := pm_Im none (pm_Ev 0) pm_T10 (some .boolean) pm_rI sh σ
set_option maxHeartbeats 4000000 in
set_option maxRecDepth 100000 in
theorem sSheet_hasItem_40_ok (a1 : Int32) (M : pm_M) : ∀ r, sSheet_hasItem_40 a1 M = some r → pm_Ev 1 10 [.ref 40, .int a1] M (pm_rI r).1 (pm_rI r).2 := by
  refine pm_meth (al := [some (.ref 40), some (.int a1)]) rfl rfl rfl rfl rfl ?_
  unfold sSheet_hasItem_40
  show I_Sheet_hasItem_40 _ (0, [some (.ref 40), some (.int a1)], [], M)
  refine pm_irun 1 (σ' := (1, [some (.ref 40), some (.int a1)], [.int a1], M)) rfl ?_
  refine pm_iite (σ1 := (16, [some (.ref 40), some (.int a1)], [], M)) (σ2 := (4, [some (.ref 40), some (.int a1)], [], M)) rfl (fun _ => ?_) (fun _ => ?_)
  · refine pm_irun 1 (σ' := (17, [some (.ref 40), some (.int a1)], [.int (0 : Int32)], M)) rfl ?_
    exact pm_irZ (Or.inl rfl) rfl rfl
  · refine pm_irun 3 (σ' := (9, [some (.ref 40), some (.int a1)], [.int (M.1 40 1), .int a1], M)) rfl ?_
    refine pm_iite (σ1 := (16, [some (.ref 40), some (.int a1)], [], M)) (σ2 := (12, [some (.ref 40), some (.int a1)], [], M)) rfl (fun _ => ?_) (fun _ => ?_)
    · refine pm_irun 1 (σ' := (17, [some (.ref 40), some (.int a1)], [.int (0 : Int32)], M)) rfl ?_
      exact pm_irZ (Or.inl rfl) rfl rfl
    · refine pm_irun 2 (σ' := (17, [some (.ref 40), some (.int a1)], [.int (1 : Int32)], M)) rfl ?_
      exact pm_irZ (Or.inr rfl) rfl rfl
def sSheet_hasItem_42 (a1 : Int32) (M : pm_M) : Option (Int32 × pm_M) := if a1 < 0 then (some ((0 : Int32), M)) else (if (M.1 42 1) ≤ a1 then (some ((0 : Int32), M)) else (some ((1 : Int32), M)))
abbrev I_Sheet_hasItem_42 (sh : Option (Int32 × pm_M)) (σ : pm_St) : Prop := pm_Im none (pm_Ev 0) pm_T10 (some .boolean) pm_rI sh σ
set_option maxHeartbeats 4000000 in
set_option maxRecDepth 100000 in
theorem sSheet_hasItem_42_ok (a1 : Int32) (M : pm_M) : ∀ r, sSheet_hasItem_42 a1 M = some r → pm_Ev 1 10 [.ref 42, .int a1] M (pm_rI r).1 (pm_rI r).2 := by
  refine pm_meth (al := [some (.ref 42), some (.int a1)]) rfl rfl rfl rfl rfl ?_
  unfold sSheet_hasItem_42
  show I_Sheet_hasItem_42 _ (0, [some (.ref 42), some (.int a1)], [], M)
  refine pm_irun 1 (σ' := (1, [some (.ref 42), some (.int a1)], [.int a1], M)) rfl ?_
  refine pm_iite (σ1 := (16, [some (.ref 42), some (.int a1)], [], M)) (σ2 := (4, [some (.ref 42), some (.int a1)], [], M)) rfl (fun _ => ?_) (fun _ => ?_)
  · refine pm_irun 1 (σ' := (17, [some (.ref 42), some (.int a1)], [.int (0 : Int32)], M)) rfl ?_
    exact pm_irZ (Or.inl rfl) rfl rfl
  · refine pm_irun 3 (σ' := (9, [some (.ref 42), some (.int a1)], [.int (M.1 42 1), .int a1], M)) rfl ?_
    refine pm_iite (σ1 := (16, [some (.ref 42), some (.int a1)], [], M)) (σ2 := (12, [some (.ref 42), some (.int a1)], [], M)) rfl (fun _ => ?_) (fun _ => ?_)
    · refine pm_irun 1 (σ' := (17, [some (.ref 42), some (.int a1)], [.int (0 : Int32)], M)) rfl ?_
      exact pm_irZ (Or.inl rfl) rfl rfl
    · refine pm_irun 2 (σ' := (17, [some (.ref 42), some (.int a1)], [.int (1 : Int32)], M)) rfl ?_
      exact pm_irZ (Or.inr rfl) rfl rfl
def sSheet_hasItem_44 (a1 : Int32) (M : pm_M) : Option (Int32 × pm_M) := if a1 < 0 then (some ((0 : Int32), M)) else (if (M.1 44 1) ≤ a1 then (some ((0 : Int32), M)) else (some ((1 : Int32), M)))
abbrev I_Sheet_hasItem_44 (sh : Option (Int32 × pm_M)) (σ : pm_St) : Prop := pm_Im none (pm_Ev 0) pm_T10 (some .boolean) pm_rI sh σ
set_option maxHeartbeats 4000000 in
set_option maxRecDepth 100000 in
theorem sSheet_hasItem_44_ok (a1 : Int32) (M : pm_M) : ∀ r, sSheet_hasItem_44 a1 M = some r → pm_Ev 1 10 [.ref 44, .int a1] M (pm_rI r).1 (pm_rI r).2 := by
  refine pm_meth (al := [some (.ref 44), some (.int a1)]) rfl rfl rfl rfl rfl ?_
  unfold sSheet_hasItem_44
  show I_Sheet_hasItem_44 _ (0, [some (.ref 44), some (.int a1)], [], M)
  refine pm_irun 1 (σ' := (1, [some (.ref 44), some (.int a1)], [.int a1], M)) rfl ?_
  refine pm_iite (σ1 := (16, [some (.ref 44), some (.int a1)], [], M)) (σ2 := (4, [some (.ref 44), some (.int a1)], [], M)) rfl (fun _ => ?_) (fun _ => ?_)
  · refine pm_irun 1 (σ' := (17, [some (.ref 44), some (.int a1)], [.int (0 : Int32)], M)) rfl ?_
    exact pm_irZ (Or.inl rfl) rfl rfl
  · refine pm_irun 3 (σ' := (9, [some (.ref 44), some (.int a1)], [.int (M.1 44 1), .int a1], M)) rfl ?_
    refine pm_iite (σ1 := (16, [some (.ref 44), some (.int a1)], [], M)) (σ2 := (12, [some (.ref 44), some (.int a1)], [], M)) rfl (fun _ => ?_) (fun _ => ?_)
    · refine pm_irun 1 (σ' := (17, [some (.ref 44), some (.int a1)], [.int (0 : Int32)], M)) rfl ?_
      exact pm_irZ (Or.inl rfl) rfl rfl
    · refine pm_irun 2 (σ' := (17, [some (.ref 44), some (.int a1)], [.int (1 : Int32)], M)) rfl ?_
      exact pm_irZ (Or.inr rfl) rfl rfl
def sSheet_hasItem_46 (a1 : Int32) (M : pm_M) : Option (Int32 × pm_M) := if a1 < 0 then (some ((0 : Int32), M)) else (if (M.1 46 1) ≤ a1 then (some ((0 : Int32), M)) else (some ((1 : Int32), M)))
abbrev I_Sheet_hasItem_46 (sh : Option (Int32 × pm_M)) (σ : pm_St) : Prop := pm_Im none (pm_Ev 0) pm_T10 (some .boolean) pm_rI sh σ
set_option maxHeartbeats 4000000 in
set_option maxRecDepth 100000 in
theorem sSheet_hasItem_46_ok (a1 : Int32) (M : pm_M) : ∀ r, sSheet_hasItem_46 a1 M = some r → pm_Ev 1 10 [.ref 46, .int a1] M (pm_rI r).1 (pm_rI r).2 := by
  refine pm_meth (al := [some (.ref 46), some (.int a1)]) rfl rfl rfl rfl rfl ?_
  unfold sSheet_hasItem_46
  show I_Sheet_hasItem_46 _ (0, [some (.ref 46), some (.int a1)], [], M)
  refine pm_irun 1 (σ' := (1, [some (.ref 46), some (.int a1)], [.int a1], M)) rfl ?_
  refine pm_iite (σ1 := (16, [some (.ref 46), some (.int a1)], [], M)) (σ2 := (4, [some (.ref 46), some (.int a1)], [], M)) rfl (fun _ => ?_) (fun _ => ?_)
  · refine pm_irun 1 (σ' := (17, [some (.ref 46), some (.int a1)], [.int (0 : Int32)], M)) rfl ?_
    exact pm_irZ (Or.inl rfl) rfl rfl
  · refine pm_irun 3 (σ' := (9, [some (.ref 46), some (.int a1)], [.int (M.1 46 1), .int a1], M)) rfl ?_
    refine pm_iite (σ1 := (16, [some (.ref 46), some (.int a1)], [], M)) (σ2 := (12, [some (.ref 46), some (.int a1)], [], M)) rfl (fun _ => ?_) (fun _ => ?_)
    · refine pm_irun 1 (σ' := (17, [some (.ref 46), some (.int a1)], [.int (0 : Int32)], M)) rfl ?_
      exact pm_irZ (Or.inl rfl) rfl rfl
    · refine pm_irun 2 (σ' := (17, [some (.ref 46), some (.int a1)], [.int (1 : Int32)], M)) rfl ?_
      exact pm_irZ (Or.inr rfl) rfl rfl
def sC_put (a1 : Int32) (a2 : Int32) (a3 : Int64) (M : pm_M) : Option (Int32 × pm_M) := pm_bd (sC_isSheet a1 M) fun v2 M1 => if ¬ v2 = 0 then (if a1 = 0 then (pm_bd (sSheet_isMissing_40 M1) fun v4 M3 => if v4 = 0 then (if a1 = 0 then (pm_bd (sSheet_hasItem_40 a2 M3) fun v6 M5 => if ¬ v6 = 0 then (if a1 = 0 then (pm_bv (sSheet_store_40 a2 a3 M5) fun M7 => some ((1 : Int32), M7)) else if a1 = 1 then (pm_bv (sSheet_store_42 a2 a3 M5) fun M8 => some ((1 : Int32), M8)) else if a1 = 2 then (pm_bv (sSheet_store_44 a2 a3 M5) fun M9 => some ((1 : Int32), M9)) else if a1 = 3 then (pm_bv (sSheet_store_46 a2 a3 M5) fun M10 => some ((1 : Int32), M10)) else none) else (some ((-12 : Int32), M5))) else if a1 = 1 then (pm_bd (sSheet_hasItem_42 a2 M3) fun v12 M11 => if ¬ v12 = 0 then (if a1 = 0 then (pm_bv (sSheet_store_40 a2 a3 M11) fun M13 => some ((1 : Int32), M13)) else if a1 = 1 then (pm_bv (sSheet_store_42 a2 a3 M11) fun M14 => some ((1 : Int32), M14)) else if a1 = 2 then (pm_bv (sSheet_store_44 a2 a3 M11) fun M15 => some ((1 : Int32), M15)) else if a1 = 3 then (pm_bv (sSheet_store_46 a2 a3 M11) fun M16 => some ((1 : Int32), M16)) else none) else (some ((-12 : Int32), M11))) else if a1 = 2 then (pm_bd (sSheet_hasItem_44 a2 M3) fun v18 M17 => if ¬ v18 = 0 then (if a1 = 0 then (pm_bv (sSheet_store_40 a2 a3 M17) fun M19 => some ((1 : Int32), M19)) else if a1 = 1 then (pm_bv (sSheet_store_42 a2 a3 M17) fun M20 => some ((1 : Int32), M20)) else if a1 = 2 then (pm_bv (sSheet_store_44 a2 a3 M17) fun M21 => some ((1 : Int32), M21)) else if a1 = 3 then (pm_bv (sSheet_store_46 a2 a3 M17) fun M22 => some ((1 : Int32), M22)) else none) else (some ((-12 : Int32), M17))) else if a1 = 3 then (pm_bd (sSheet_hasItem_46 a2 M3) fun v24 M23 => if ¬ v24 = 0 then (if a1 = 0 then (pm_bv (sSheet_store_40 a2 a3 M23) fun M25 => some ((1 : Int32), M25)) else if a1 = 1 then (pm_bv (sSheet_store_42 a2 a3 M23) fun M26 => some ((1 : Int32), M26)) else if a1 = 2 then (pm_bv (sSheet_store_44 a2 a3 M23) fun M27 => some ((1 : Int32), M27)) else if a1 = 3 then (pm_bv (sSheet_store_46 a2 a3 M23) fun M28 => some ((1 : Int32), M28)) else none) else (some ((-12 : Int32), M23))) else none) else (some ((-11 : Int32), M3))) else if a1 = 1 then (pm_bd (sSheet_isMissing_42 M1) fun v30 M29 => if v30 = 0 then (if a1 = 0 then (pm_bd (sSheet_hasItem_40 a2 M29) fun v32 M31 => if ¬ v32 = 0 then (if a1 = 0 then (pm_bv (sSheet_store_40 a2 a3 M31) fun M33 => some ((1 : Int32), M33)) else if a1 = 1 then (pm_bv (sSheet_store_42 a2 a3 M31) fun M34 => some ((1 : Int32), M34)) else if a1 = 2 then (pm_bv (sSheet_store_44 a2 a3 M31) fun M35 => some ((1 : Int32), M35)) else if a1 = 3 then (pm_bv (sSheet_store_46 a2 a3 M31) fun M36 => some ((1 : Int32), M36)) else none) else (some ((-12 : Int32), M31))) else if a1 = 1 then (pm_bd (sSheet_hasItem_42 a2 M29) fun v38 M37 => if ¬ v38 = 0 then (if a1 = 0 then (pm_bv (sSheet_store_40 a2 a3 M37) fun M39 => some ((1 : Int32), M39)) else if a1 = 1 then (pm_bv (sSheet_store_42 a2 a3 M37) fun M40 => some ((1 : Int32), M40)) else if a1 = 2 then (pm_bv (sSheet_store_44 a2 a3 M37) fun M41 => some ((1 : Int32), M41)) else if a1 = 3 then (pm_bv (sSheet_store_46 a2 a3 M37) fun M42 => some ((1 : Int32), M42)) else none) else (some ((-12 : Int32), M37))) else if a1 = 2 then (pm_bd (sSheet_hasItem_44 a2 M29) fun v44 M43 => if ¬ v44 = 0 then (if a1 = 0 then (pm_bv (sSheet_store_40 a2 a3 M43) fun M45 => some ((1 : Int32), M45)) else if a1 = 1 then (pm_bv (sSheet_store_42 a2 a3 M43) fun M46 => some ((1 : Int32), M46)) else if a1 = 2 then (pm_bv (sSheet_store_44 a2 a3 M43) fun M47 => some ((1 : Int32), M47)) else if a1 = 3 then (pm_bv (sSheet_store_46 a2 a3 M43) fun M48 => some ((1 : Int32), M48)) else none) else (some ((-12 : Int32), M43))) else if a1 = 3 then (pm_bd (sSheet_hasItem_46 a2 M29) fun v50 M49 => if ¬ v50 = 0 then (if a1 = 0 then (pm_bv (sSheet_store_40 a2 a3 M49) fun M51 => some ((1 : Int32), M51)) else if a1 = 1 then (pm_bv (sSheet_store_42 a2 a3 M49) fun M52 => some ((1 : Int32), M52)) else if a1 = 2 then (pm_bv (sSheet_store_44 a2 a3 M49) fun M53 => some ((1 : Int32), M53)) else if a1 = 3 then (pm_bv (sSheet_store_46 a2 a3 M49) fun M54 => some ((1 : Int32), M54)) else none) else (some ((-12 : Int32), M49))) else none) else (some ((-11 : Int32), M29))) else if a1 = 2 then (pm_bd (sSheet_isMissing_44 M1) fun v56 M55 => if v56 = 0 then (if a1 = 0 then (pm_bd (sSheet_hasItem_40 a2 M55) fun v58 M57 => if ¬ v58 = 0 then (if a1 = 0 then (pm_bv (sSheet_store_40 a2 a3 M57) fun M59 => some ((1 : Int32), M59)) else if a1 = 1 then (pm_bv (sSheet_store_42 a2 a3 M57) fun M60 => some ((1 : Int32), M60)) else if a1 = 2 then (pm_bv (sSheet_store_44 a2 a3 M57) fun M61 => some ((1 : Int32), M61)) else if a1 = 3 then (pm_bv (sSheet_store_46 a2 a3 M57) fun M62 => some ((1 : Int32), M62)) else none) else (some ((-12 : Int32), M57))) else if a1 = 1 then (pm_bd (sSheet_hasItem_42 a2 M55) fun v64 M63 => if ¬ v64 = 0 then (if a1 = 0 then (pm_bv (sSheet_store_40 a2 a3 M63) fun M65 => some ((1 : Int32), M65)) else if a1 = 1 then (pm_bv (sSheet_store_42 a2 a3 M63) fun M66 => some ((1 : Int32), M66)) else if a1 = 2 then (pm_bv (sSheet_store_44 a2 a3 M63) fun M67 => some ((1 : Int32), M67)) else if a1 = 3 then (pm_bv (sSheet_store_46 a2 a3 M63) fun M68 => some ((1 : Int32), M68)) else none) else (some ((-12 : Int32), M63))) else if a1 = 2 then (pm_bd (sSheet_hasItem_44 a2 M55) fun v70 M69 => if ¬ v70 = 0 then (if a1 = 0 then (pm_bv (sSheet_store_40 a2 a3 M69) fun M71 => some ((1 : Int32), M71)) else if a1 = 1 then (pm_bv (sSheet_store_42 a2 a3 M69) fun M72 => some ((1 : Int32), M72)) else if a1 = 2 then (pm_bv (sSheet_store_44 a2 a3 M69) fun M73 => some ((1 : Int32), M73)) else if a1 = 3 then (pm_bv (sSheet_store_46 a2 a3 M69) fun M74 => some ((1 : Int32), M74)) else none) else (some ((-12 : Int32), M69))) else if a1 = 3 then (pm_bd (sSheet_hasItem_46 a2 M55) fun v76 M75 => if ¬ v76 = 0 then (if a1 = 0 then (pm_bv (sSheet_store_40 a2 a3 M75) fun M77 => some ((1 : Int32), M77)) else if a1 = 1 then (pm_bv (sSheet_store_42 a2 a3 M75) fun M78 => some ((1 : Int32), M78)) else if a1 = 2 then (pm_bv (sSheet_store_44 a2 a3 M75) fun M79 => some ((1 : Int32), M79)) else if a1 = 3 then (pm_bv (sSheet_store_46 a2 a3 M75) fun M80 => some ((1 : Int32), M80)) else none) else (some ((-12 : Int32), M75))) else none) else (some ((-11 : Int32), M55))) else if a1 = 3 then (pm_bd (sSheet_isMissing_46 M1) fun v82 M81 => if v82 = 0 then (if a1 = 0 then (pm_bd (sSheet_hasItem_40 a2 M81) fun v84 M83 => if ¬ v84 = 0 then (if a1 = 0 then (pm_bv (sSheet_store_40 a2 a3 M83) fun M85 => some ((1 : Int32), M85)) else if a1 = 1 then (pm_bv (sSheet_store_42 a2 a3 M83) fun M86 => some ((1 : Int32), M86)) else if a1 = 2 then (pm_bv (sSheet_store_44 a2 a3 M83) fun M87 => some ((1 : Int32), M87)) else if a1 = 3 then (pm_bv (sSheet_store_46 a2 a3 M83) fun M88 => some ((1 : Int32), M88)) else none) else (some ((-12 : Int32), M83))) else if a1 = 1 then (pm_bd (sSheet_hasItem_42 a2 M81) fun v90 M89 => if ¬ v90 = 0 then (if a1 = 0 then (pm_bv (sSheet_store_40 a2 a3 M89) fun M91 => some ((1 : Int32), M91)) else if a1 = 1 then (pm_bv (sSheet_store_42 a2 a3 M89) fun M92 => some ((1 : Int32), M92)) else if a1 = 2 then (pm_bv (sSheet_store_44 a2 a3 M89) fun M93 => some ((1 : Int32), M93)) else if a1 = 3 then (pm_bv (sSheet_store_46 a2 a3 M89) fun M94 => some ((1 : Int32), M94)) else none) else (some ((-12 : Int32), M89))) else if a1 = 2 then (pm_bd (sSheet_hasItem_44 a2 M81) fun v96 M95 => if ¬ v96 = 0 then (if a1 = 0 then (pm_bv (sSheet_store_40 a2 a3 M95) fun M97 => some ((1 : Int32), M97)) else if a1 = 1 then (pm_bv (sSheet_store_42 a2 a3 M95) fun M98 => some ((1 : Int32), M98)) else if a1 = 2 then (pm_bv (sSheet_store_44 a2 a3 M95) fun M99 => some ((1 : Int32), M99)) else if a1 = 3 then (pm_bv (sSheet_store_46 a2 a3 M95) fun M100 => some ((1 : Int32), M100)) else none) else (some ((-12 : Int32), M95))) else if a1 = 3 then (pm_bd (sSheet_hasItem_46 a2 M81) fun v102 M101 => if ¬ v102 = 0 then (if a1 = 0 then (pm_bv (sSheet_store_40 a2 a3 M101) fun M103 => some ((1 : Int32), M103)) else if a1 = 1 then (pm_bv (sSheet_store_42 a2 a3 M101) fun M104 => some ((1 : Int32), M104)) else if a1 = 2 then (pm_bv (sSheet_store_44 a2 a3 M101) fun M105 => some ((1 : Int32), M105)) else if a1 = 3 then (pm_bv (sSheet_store_46 a2 a3 M101) fun M106 => some ((1 : Int32), M106)) else none) else (some ((-12 : Int32), M101))) else none) else (some ((-11 : Int32), M81))) else none) else (some ((-2 : Int32), M1))
abbrev I_C_put (sh : Option (Int32 × pm_M)) (σ : pm_St) : Prop := pm_Im none (pm_Ev 1) pm_T91 (some .int) pm_rI sh σ
set_option maxHeartbeats 4000000 in
set_option maxRecDepth 100000 in
theorem sC_put_ok (a1 : Int32) (a2 : Int32) (a3 : Int64) (M : pm_M) : ∀ r, sC_put a1 a2 a3 M = some r → pm_Ev 2 91 [.ref 0, .int a1, .int a2, .long a3] M (pm_rI r).1 (pm_rI r).2 := by
  refine pm_meth (al := [some (.ref 0), some (.int a1), some (.int a2), some (.long a3), none]) rfl rfl rfl rfl rfl ?_
  unfold sC_put
  show I_C_put _ (0, [some (.ref 0), some (.int a1), some (.int a2), some (.long a3), none], [], M)
  refine pm_irun 1 (σ' := (1, [some (.ref 0), some (.int a1), some (.int a2), some (.long a3), none], [.int a1], M)) rfl ?_
  refine pm_icI (as := [.int a1]) (rest := []) rfl rfl rfl rfl (Nat.le_of_ble_eq_true rfl) rfl (fun r h => pm_Ev_mono (Nat.le_of_ble_eq_true rfl) (sC_isSheet_ok a1 M r h)) (fun v2 M1 => ?_)
  show pm_Im _ _ _ _ _ _ (4, [some (.ref 0), some (.int a1), some (.int a2), some (.long a3), none], [.int v2], M1)
  refine pm_iite (σ1 := (10, [some (.ref 0), some (.int a1), some (.int a2), some (.long a3), none], [], M1)) (σ2 := (7, [some (.ref 0), some (.int a1), some (.int a2), some (.long a3), none], [], M1)) rfl (fun _ => ?_) (fun _ => ?_)
  · refine pm_irun 3 (σ' := (15, [some (.ref 0), some (.int a1), some (.int a2), some (.long a3), none], [.int a1, .ref 39], M1)) rfl ?_
    refine pm_iaal rfl ?_ ?_ ?_ ?_
    · show pm_Im _ _ _ _ _ _ (16, [some (.ref 0), some (.int a1), some (.int a2), some (.long a3), none], [.ref 40], M1)
      refine pm_icI (as := [.ref 40]) (rest := []) rfl rfl rfl rfl (Nat.le_of_ble_eq_true rfl) rfl (fun r h => pm_Ev_mono (Nat.le_of_ble_eq_true rfl) (sSheet_isMissing_40_ok M1 r h)) (fun v4 M3 => ?_)
      show pm_Im _ _ _ _ _ _ (19, [some (.ref 0), some (.int a1), some (.int a2), some (.long a3), none], [.int v4], M3)
      refine pm_iite (σ1 := (25, [some (.ref 0), some (.int a1), some (.int a2), some (.long a3), none], [], M3)) (σ2 := (22, [some (.ref 0), some (.int a1), some (.int a2), some (.long a3), none], [], M3)) rfl (fun _ => ?_) (fun _ => ?_)
      · refine pm_irun 3 (σ' := (30, [some (.ref 0), some (.int a1), some (.int a2), some (.long a3), none], [.int a1, .ref 39], M3)) rfl ?_
        refine pm_iaal rfl ?_ ?_ ?_ ?_
        · show pm_Im _ _ _ _ _ _ (31, [some (.ref 0), some (.int a1), some (.int a2), some (.long a3), none], [.ref 40], M3)
          refine pm_irun 1 (σ' := (32, [some (.ref 0), some (.int a1), some (.int a2), some (.long a3), none], [.int a2, .ref 40], M3)) rfl ?_
          refine pm_icI (as := [.ref 40, .int a2]) (rest := []) rfl rfl rfl rfl (Nat.le_of_ble_eq_true rfl) rfl (fun r h => pm_Ev_mono (Nat.le_of_ble_eq_true rfl) (sSheet_hasItem_40_ok a2 M3 r h)) (fun v6 M5 => ?_)
          show pm_Im _ _ _ _ _ _ (35, [some (.ref 0), some (.int a1), some (.int a2), some (.long a3), none], [.int v6], M5)
          refine pm_iite (σ1 := (41, [some (.ref 0), some (.int a1), some (.int a2), some (.long a3), none], [], M5)) (σ2 := (38, [some (.ref 0), some (.int a1), some (.int a2), some (.long a3), none], [], M5)) rfl (fun _ => ?_) (fun _ => ?_)
          · refine pm_irun 3 (σ' := (46, [some (.ref 0), some (.int a1), some (.int a2), some (.long a3), none], [.int a1, .ref 39], M5)) rfl ?_
            refine pm_iaal rfl ?_ ?_ ?_ ?_
            · show pm_Im _ _ _ _ _ _ (47, [some (.ref 0), some (.int a1), some (.int a2), some (.long a3), none], [.ref 40], M5)
              refine pm_irun 2 (σ' := (49, [some (.ref 0), some (.int a1), some (.int a2), some (.long a3), none], [.long a3, .int a2, .ref 40], M5)) rfl ?_
              refine pm_icV (as := [.ref 40, .int a2, .long a3]) (rest := []) rfl rfl rfl rfl (Nat.le_of_ble_eq_true rfl) rfl (fun r h => pm_Ev_mono (Nat.le_of_ble_eq_true rfl) (sSheet_store_40_ok a2 a3 M5 r h)) (fun M7 => ?_)
              show pm_Im _ _ _ _ _ _ (52, [some (.ref 0), some (.int a1), some (.int a2), some (.long a3), none], [], M7)
              refine pm_irun 1 (σ' := (53, [some (.ref 0), some (.int a1), some (.int a2), some (.long a3), none], [.int (1 : Int32)], M7)) rfl ?_
              exact pm_irI rfl rfl
            · show pm_Im _ _ _ _ _ _ (47, [some (.ref 0), some (.int a1), some (.int a2), some (.long a3), none], [.ref 42], M5)
              refine pm_irun 2 (σ' := (49, [some (.ref 0), some (.int a1), some (.int a2), some (.long a3), none], [.long a3, .int a2, .ref 42], M5)) rfl ?_
              refine pm_icV (as := [.ref 42, .int a2, .long a3]) (rest := []) rfl rfl rfl rfl (Nat.le_of_ble_eq_true rfl) rfl (fun r h => pm_Ev_mono (Nat.le_of_ble_eq_true rfl) (sSheet_store_42_ok a2 a3 M5 r h)) (fun M8 => ?_)
              show pm_Im _ _ _ _ _ _ (52, [some (.ref 0), some (.int a1), some (.int a2), some (.long a3), none], [], M8)
              refine pm_irun 1 (σ' := (53, [some (.ref 0), some (.int a1), some (.int a2), some (.long a3), none], [.int (1 : Int32)], M8)) rfl ?_
              exact pm_irI rfl rfl
            · show pm_Im _ _ _ _ _ _ (47, [some (.ref 0), some (.int a1), some (.int a2), some (.long a3), none], [.ref 44], M5)
              refine pm_irun 2 (σ' := (49, [some (.ref 0), some (.int a1), some (.int a2), some (.long a3), none], [.long a3, .int a2, .ref 44], M5)) rfl ?_
              refine pm_icV (as := [.ref 44, .int a2, .long a3]) (rest := []) rfl rfl rfl rfl (Nat.le_of_ble_eq_true rfl) rfl (fun r h => pm_Ev_mono (Nat.le_of_ble_eq_true rfl) (sSheet_store_44_ok a2 a3 M5 r h)) (fun M9 => ?_)
              show pm_Im _ _ _ _ _ _ (52, [some (.ref 0), some (.int a1), some (.int a2), some (.long a3), none], [], M9)
              refine pm_irun 1 (σ' := (53, [some (.ref 0), some (.int a1), some (.int a2), some (.long a3), none], [.int (1 : Int32)], M9)) rfl ?_
              exact pm_irI rfl rfl
            · show pm_Im _ _ _ _ _ _ (47, [some (.ref 0), some (.int a1), some (.int a2), some (.long a3), none], [.ref 46], M5)
              refine pm_irun 2 (σ' := (49, [some (.ref 0), some (.int a1), some (.int a2), some (.long a3), none], [.long a3, .int a2, .ref 46], M5)) rfl ?_
              refine pm_icV (as := [.ref 46, .int a2, .long a3]) (rest := []) rfl rfl rfl rfl (Nat.le_of_ble_eq_true rfl) rfl (fun r h => pm_Ev_mono (Nat.le_of_ble_eq_true rfl) (sSheet_store_46_ok a2 a3 M5 r h)) (fun M10 => ?_)
              show pm_Im _ _ _ _ _ _ (52, [some (.ref 0), some (.int a1), some (.int a2), some (.long a3), none], [], M10)
              refine pm_irun 1 (σ' := (53, [some (.ref 0), some (.int a1), some (.int a2), some (.long a3), none], [.int (1 : Int32)], M10)) rfl ?_
              exact pm_irI rfl rfl
          · refine pm_irun 1 (σ' := (40, [some (.ref 0), some (.int a1), some (.int a2), some (.long a3), none], [.int (-12 : Int32)], M5)) rfl ?_
            exact pm_irI rfl rfl
        · show pm_Im _ _ _ _ _ _ (31, [some (.ref 0), some (.int a1), some (.int a2), some (.long a3), none], [.ref 42], M3)
          refine pm_irun 1 (σ' := (32, [some (.ref 0), some (.int a1), some (.int a2), some (.long a3), none], [.int a2, .ref 42], M3)) rfl ?_
          refine pm_icI (as := [.ref 42, .int a2]) (rest := []) rfl rfl rfl rfl (Nat.le_of_ble_eq_true rfl) rfl (fun r h => pm_Ev_mono (Nat.le_of_ble_eq_true rfl) (sSheet_hasItem_42_ok a2 M3 r h)) (fun v12 M11 => ?_)
          show pm_Im _ _ _ _ _ _ (35, [some (.ref 0), some (.int a1), some (.int a2), some (.long a3), none], [.int v12], M11)
          refine pm_iite (σ1 := (41, [some (.ref 0), some (.int a1), some (.int a2), some (.long a3), none], [], M11)) (σ2 := (38, [some (.ref 0), some (.int a1), some (.int a2), some (.long a3), none], [], M11)) rfl (fun _ => ?_) (fun _ => ?_)
          · refine pm_irun 3 (σ' := (46, [some (.ref 0), some (.int a1), some (.int a2), some (.long a3), none], [.int a1, .ref 39], M11)) rfl ?_
            refine pm_iaal rfl ?_ ?_ ?_ ?_
            · show pm_Im _ _ _ _ _ _ (47, [some (.ref 0), some (.int a1), some (.int a2), some (.long a3), none], [.ref 40], M11)
              refine pm_irun 2 (σ' := (49, [some (.ref 0), some (.int a1), some (.int a2), some (.long a3), none], [.long a3, .int a2, .ref 40], M11)) rfl ?_
              refine pm_icV (as := [.ref 40, .int a2, .long a3]) (rest := []) rfl rfl rfl rfl (Nat.le_of_ble_eq_true rfl) rfl (fun r h => pm_Ev_mono (Nat.le_of_ble_eq_true rfl) (sSheet_store_40_ok a2 a3 M11 r h)) (fun M13 => ?_)
              show pm_Im _ _ _ _ _ _ (52, [some (.ref 0), some (.int a1), some (.int a2), some (.long a3), none], [], M13)
              refine pm_irun 1 (σ' := (53, [some (.ref 0), some (.int a1), some (.int a2), some (.long a3), none], [.int (1 : Int32)], M13)) rfl ?_
              exact pm_irI rfl rfl
            · show pm_Im _ _ _ _ _ _ (47, [some (.ref 0), some (.int a1), some (.int a2), some (.long a3), none], [.ref 42], M11)
              refine pm_irun 2 (σ' := (49, [some (.ref 0), some (.int a1), some (.int a2), some (.long a3), none], [.long a3, .int a2, .ref 42], M11)) rfl ?_
              refine pm_icV (as := [.ref 42, .int a2, .long a3]) (rest := []) rfl rfl rfl rfl (Nat.le_of_ble_eq_true rfl) rfl (fun r h => pm_Ev_mono (Nat.le_of_ble_eq_true rfl) (sSheet_store_42_ok a2 a3 M11 r h)) (fun M14 => ?_)
              show pm_Im _ _ _ _ _ _ (52, [some (.ref 0), some (.int a1), some (.int a2), some (.long a3), none], [], M14)
              refine pm_irun 1 (σ' := (53, [some (.ref 0), some (.int a1), some (.int a2), some (.long a3), none], [.int (1 : Int32)], M14)) rfl ?_
              exact pm_irI rfl rfl
            · show pm_Im _ _ _ _ _ _ (47, [some (.ref 0), some (.int a1), some (.int a2), some (.long a3), none], [.ref 44], M11)
              refine pm_irun 2 (σ' := (49, [some (.ref 0), some (.int a1), some (.int a2), some (.long a3), none], [.long a3, .int a2, .ref 44], M11)) rfl ?_
              refine pm_icV (as := [.ref 44, .int a2, .long a3]) (rest := []) rfl rfl rfl rfl (Nat.le_of_ble_eq_true rfl) rfl (fun r h => pm_Ev_mono (Nat.le_of_ble_eq_true rfl) (sSheet_store_44_ok a2 a3 M11 r h)) (fun M15 => ?_)
              show pm_Im _ _ _ _ _ _ (52, [some (.ref 0), some (.int a1), some (.int a2), some (.long a3), none], [], M15)
              refine pm_irun 1 (σ' := (53, [some (.ref 0), some (.int a1), some (.int a2), some (.long a3), none], [.int (1 : Int32)], M15)) rfl ?_
              exact pm_irI rfl rfl
            · show pm_Im _ _ _ _ _ _ (47, [some (.ref 0), some (.int a1), some (.int a2), some (.long a3), none], [.ref 46], M11)
              refine pm_irun 2 (σ' := (49, [some (.ref 0), some (.int a1), some (.int a2), some (.long a3), none], [.long a3, .int a2, .ref 46], M11)) rfl ?_
              refine pm_icV (as := [.ref 46, .int a2, .long a3]) (rest := []) rfl rfl rfl rfl (Nat.le_of_ble_eq_true rfl) rfl (fun r h => pm_Ev_mono (Nat.le_of_ble_eq_true rfl) (sSheet_store_46_ok a2 a3 M11 r h)) (fun M16 => ?_)
              show pm_Im _ _ _ _ _ _ (52, [some (.ref 0), some (.int a1), some (.int a2), some (.long a3), none], [], M16)
              refine pm_irun 1 (σ' := (53, [some (.ref 0), some (.int a1), some (.int a2), some (.long a3), none], [.int (1 : Int32)], M16)) rfl ?_
              exact pm_irI rfl rfl
          · refine pm_irun 1 (σ' := (40, [some (.ref 0), some (.int a1), some (.int a2), some (.long a3), none], [.int (-12 : Int32)], M11)) rfl ?_
            exact pm_irI rfl rfl
        · show pm_Im _ _ _ _ _ _ (31, [some (.ref 0), some (.int a1), some (.int a2), some (.long a3), none], [.ref 44], M3)
          refine pm_irun 1 (σ' := (32, [some (.ref 0), some (.int a1), some (.int a2), some (.long a3), none], [.int a2, .ref 44], M3)) rfl ?_
          refine pm_icI (as := [.ref 44, .int a2]) (rest := []) rfl rfl rfl rfl (Nat.le_of_ble_eq_true rfl) rfl (fun r h => pm_Ev_mono (Nat.le_of_ble_eq_true rfl) (sSheet_hasItem_44_ok a2 M3 r h)) (fun v18 M17 => ?_)
          show pm_Im _ _ _ _ _ _ (35, [some (.ref 0), some (.int a1), some (.int a2), some (.long a3), none], [.int v18], M17)
          refine pm_iite (σ1 := (41, [some (.ref 0), some (.int a1), some (.int a2), some (.long a3), none], [], M17)) (σ2 := (38, [some (.ref 0), some (.int a1), some (.int a2), some (.long a3), none], [], M17)) rfl (fun _ => ?_) (fun _ => ?_)
          · refine pm_irun 3 (σ' := (46, [some (.ref 0), some (.int a1), some (.int a2), some (.long a3), none], [.int a1, .ref 39], M17)) rfl ?_
            refine pm_iaal rfl ?_ ?_ ?_ ?_
            · show pm_Im _ _ _ _ _ _ (47, [some (.ref 0), some (.int a1), some (.int a2), some (.long a3), none], [.ref 40], M17)
              refine pm_irun 2 (σ' := (49, [some (.ref 0), some (.int a1), some (.int a2), some (.long a3), none], [.long a3, .int a2, .ref 40], M17)) rfl ?_
              refine pm_icV (as := [.ref 40, .int a2, .long a3]) (rest := []) rfl rfl rfl rfl (Nat.le_of_ble_eq_true rfl) rfl (fun r h => pm_Ev_mono (Nat.le_of_ble_eq_true rfl) (sSheet_store_40_ok a2 a3 M17 r h)) (fun M19 => ?_)
              show pm_Im _ _ _ _ _ _ (52, [some (.ref 0), some (.int a1), some (.int a2), some (.long a3), none], [], M19)
              refine pm_irun 1 (σ' := (53, [some (.ref 0), some (.int a1), some (.int a2), some (.long a3), none], [.int (1 : Int32)], M19)) rfl ?_
              exact pm_irI rfl rfl
            · show pm_Im _ _ _ _ _ _ (47, [some (.ref 0), some (.int a1), some (.int a2), some (.long a3), none], [.ref 42], M17)
              refine pm_irun 2 (σ' := (49, [some (.ref 0), some (.int a1), some (.int a2), some (.long a3), none], [.long a3, .int a2, .ref 42], M17)) rfl ?_
              refine pm_icV (as := [.ref 42, .int a2, .long a3]) (rest := []) rfl rfl rfl rfl (Nat.le_of_ble_eq_true rfl) rfl (fun r h => pm_Ev_mono (Nat.le_of_ble_eq_true rfl) (sSheet_store_42_ok a2 a3 M17 r h)) (fun M20 => ?_)
              show pm_Im _ _ _ _ _ _ (52, [some (.ref 0), some (.int a1), some (.int a2), some (.long a3), none], [], M20)
              refine pm_irun 1 (σ' := (53, [some (.ref 0), some (.int a1), some (.int a2), some (.long a3), none], [.int (1 : Int32)], M20)) rfl ?_
              exact pm_irI rfl rfl
            · show pm_Im _ _ _ _ _ _ (47, [some (.ref 0), some (.int a1), some (.int a2), some (.long a3), none], [.ref 44], M17)
              refine pm_irun 2 (σ' := (49, [some (.ref 0), some (.int a1), some (.int a2), some (.long a3), none], [.long a3, .int a2, .ref 44], M17)) rfl ?_
              refine pm_icV (as := [.ref 44, .int a2, .long a3]) (rest := []) rfl rfl rfl rfl (Nat.le_of_ble_eq_true rfl) rfl (fun r h => pm_Ev_mono (Nat.le_of_ble_eq_true rfl) (sSheet_store_44_ok a2 a3 M17 r h)) (fun M21 => ?_)
              show pm_Im _ _ _ _ _ _ (52, [some (.ref 0), some (.int a1), some (.int a2), some (.long a3), none], [], M21)
              refine pm_irun 1 (σ' := (53, [some (.ref 0), some (.int a1), some (.int a2), some (.long a3), none], [.int (1 : Int32)], M21)) rfl ?_
              exact pm_irI rfl rfl
            · show pm_Im _ _ _ _ _ _ (47, [some (.ref 0), some (.int a1), some (.int a2), some (.long a3), none], [.ref 46], M17)
              refine pm_irun 2 (σ' := (49, [some (.ref 0), some (.int a1), some (.int a2), some (.long a3), none], [.long a3, .int a2, .ref 46], M17)) rfl ?_
              refine pm_icV (as := [.ref 46, .int a2, .long a3]) (rest := []) rfl rfl rfl rfl (Nat.le_of_ble_eq_true rfl) rfl (fun r h => pm_Ev_mono (Nat.le_of_ble_eq_true rfl) (sSheet_store_46_ok a2 a3 M17 r h)) (fun M22 => ?_)
              show pm_Im _ _ _ _ _ _ (52, [some (.ref 0), some (.int a1), some (.int a2), some (.long a3), none], [], M22)
              refine pm_irun 1 (σ' := (53, [some (.ref 0), some (.int a1), some (.int a2), some (.long a3), none], [.int (1 : Int32)], M22)) rfl ?_
              exact pm_irI rfl rfl
          · refine pm_irun 1 (σ' := (40, [some (.ref 0), some (.int a1), some (.int a2), some (.long a3), none], [.int (-12 : Int32)], M17)) rfl ?_
            exact pm_irI rfl rfl
        · show pm_Im _ _ _ _ _ _ (31, [some (.ref 0), some (.int a1), some (.int a2), some (.long a3), none], [.ref 46], M3)
          refine pm_irun 1 (σ' := (32, [some (.ref 0), some (.int a1), some (.int a2), some (.long a3), none], [.int a2, .ref 46], M3)) rfl ?_
          refine pm_icI (as := [.ref 46, .int a2]) (rest := []) rfl rfl rfl rfl (Nat.le_of_ble_eq_true rfl) rfl (fun r h => pm_Ev_mono (Nat.le_of_ble_eq_true rfl) (sSheet_hasItem_46_ok a2 M3 r h)) (fun v24 M23 => ?_)
          show pm_Im _ _ _ _ _ _ (35, [some (.ref 0), some (.int a1), some (.int a2), some (.long a3), none], [.int v24], M23)
          refine pm_iite (σ1 := (41, [some (.ref 0), some (.int a1), some (.int a2), some (.long a3), none], [], M23)) (σ2 := (38, [some (.ref 0), some (.int a1), some (.int a2), some (.long a3), none], [], M23)) rfl (fun _ => ?_) (fun _ => ?_)
          · refine pm_irun 3 (σ' := (46, [some (.ref 0), some (.int a1), some (.int a2), some (.long a3), none], [.int a1, .ref 39], M23)) rfl ?_
            refine pm_iaal rfl ?_ ?_ ?_ ?_
            · show pm_Im _ _ _ _ _ _ (47, [some (.ref 0), some (.int a1), some (.int a2), some (.long a3), none], [.ref 40], M23)
              refine pm_irun 2 (σ' := (49, [some (.ref 0), some (.int a1), some (.int a2), some (.long a3), none], [.long a3, .int a2, .ref 40], M23)) rfl ?_
              refine pm_icV (as := [.ref 40, .int a2, .long a3]) (rest := []) rfl rfl rfl rfl (Nat.le_of_ble_eq_true rfl) rfl (fun r h => pm_Ev_mono (Nat.le_of_ble_eq_true rfl) (sSheet_store_40_ok a2 a3 M23 r h)) (fun M25 => ?_)
              show pm_Im _ _ _ _ _ _ (52, [some (.ref 0), some (.int a1), some (.int a2), some (.long a3), none], [], M25)
              refine pm_irun 1 (σ' := (53, [some (.ref 0), some (.int a1), some (.int a2), some (.long a3), none], [.int (1 : Int32)], M25)) rfl ?_
              exact pm_irI rfl rfl
            · show pm_Im _ _ _ _ _ _ (47, [some (.ref 0), some (.int a1), some (.int a2), some (.long a3), none], [.ref 42], M23)
              refine pm_irun 2 (σ' := (49, [some (.ref 0), some (.int a1), some (.int a2), some (.long a3), none], [.long a3, .int a2, .ref 42], M23)) rfl ?_
              refine pm_icV (as := [.ref 42, .int a2, .long a3]) (rest := []) rfl rfl rfl rfl (Nat.le_of_ble_eq_true rfl) rfl (fun r h => pm_Ev_mono (Nat.le_of_ble_eq_true rfl) (sSheet_store_42_ok a2 a3 M23 r h)) (fun M26 => ?_)
              show pm_Im _ _ _ _ _ _ (52, [some (.ref 0), some (.int a1), some (.int a2), some (.long a3), none], [], M26)
              refine pm_irun 1 (σ' := (53, [some (.ref 0), some (.int a1), some (.int a2), some (.long a3), none], [.int (1 : Int32)], M26)) rfl ?_
              exact pm_irI rfl rfl
            · show pm_Im _ _ _ _ _ _ (47, [some (.ref 0), some (.int a1), some (.int a2), some (.long a3), none], [.ref 44], M23)
              refine pm_irun 2 (σ' := (49, [some (.ref 0), some (.int a1), some (.int a2), some (.long a3), none], [.long a3, .int a2, .ref 44], M23)) rfl ?_
              refine pm_icV (as := [.ref 44, .int a2, .long a3]) (rest := []) rfl rfl rfl rfl (Nat.le_of_ble_eq_true rfl) rfl (fun r h => pm_Ev_mono (Nat.le_of_ble_eq_true rfl) (sSheet_store_44_ok a2 a3 M23 r h)) (fun M27 => ?_)
              show pm_Im _ _ _ _ _ _ (52, [some (.ref 0), some (.int a1), some (.int a2), some (.long a3), none], [], M27)
              refine pm_irun 1 (σ' := (53, [some (.ref 0), some (.int a1), some (.int a2), some (.long a3), none], [.int (1 : Int32)], M27)) rfl ?_
              exact pm_irI rfl rfl
            · show pm_Im _ _ _ _ _ _ (47, [some (.ref 0), some (.int a1), some (.int a2), some (.long a3), none], [.ref 46], M23)
              refine pm_irun 2 (σ' := (49, [some (.ref 0), some (.int a1), some (.int a2), some (.long a3), none], [.long a3, .int a2, .ref 46], M23)) rfl ?_
              refine pm_icV (as := [.ref 46, .int a2, .long a3]) (rest := []) rfl rfl rfl rfl (Nat.le_of_ble_eq_true rfl) rfl (fun r h => pm_Ev_mono (Nat.le_of_ble_eq_true rfl) (sSheet_store_46_ok a2 a3 M23 r h)) (fun M28 => ?_)
              show pm_Im _ _ _ _ _ _ (52, [some (.ref 0), some (.int a1), some (.int a2), some (.long a3), none], [], M28)
              refine pm_irun 1 (σ' := (53, [some (.ref 0), some (.int a1), some (.int a2), some (.long a3), none], [.int (1 : Int32)], M28)) rfl ?_
              exact pm_irI rfl rfl
          · refine pm_irun 1 (σ' := (40, [some (.ref 0), some (.int a1), some (.int a2), some (.long a3), none], [.int (-12 : Int32)], M23)) rfl ?_
            exact pm_irI rfl rfl
      · refine pm_irun 1 (σ' := (24, [some (.ref 0), some (.int a1), some (.int a2), some (.long a3), none], [.int (-11 : Int32)], M3)) rfl ?_
        exact pm_irI rfl rfl
    · show pm_Im _ _ _ _ _ _ (16, [some (.ref 0), some (.int a1), some (.int a2), some (.long a3), none], [.ref 42], M1)
      refine pm_icI (as := [.ref 42]) (rest := []) rfl rfl rfl rfl (Nat.le_of_ble_eq_true rfl) rfl (fun r h => pm_Ev_mono (Nat.le_of_ble_eq_true rfl) (sSheet_isMissing_42_ok M1 r h)) (fun v30 M29 => ?_)
      show pm_Im _ _ _ _ _ _ (19, [some (.ref 0), some (.int a1), some (.int a2), some (.long a3), none], [.int v30], M29)
      refine pm_iite (σ1 := (25, [some (.ref 0), some (.int a1), some (.int a2), some (.long a3), none], [], M29)) (σ2 := (22, [some (.ref 0), some (.int a1), some (.int a2), some (.long a3), none], [], M29)) rfl (fun _ => ?_) (fun _ => ?_)
      · refine pm_irun 3 (σ' := (30, [some (.ref 0), some (.int a1), some (.int a2), some (.long a3), none], [.int a1, .ref 39], M29)) rfl ?_
        refine pm_iaal rfl ?_ ?_ ?_ ?_
        · show pm_Im _ _ _ _ _ _ (31, [some (.ref 0), some (.int a1), some (.int a2), some (.long a3), none], [.ref 40], M29)
          refine pm_irun 1 (σ' := (32, [some (.ref 0), some (.int a1), some (.int a2), some (.long a3), none], [.int a2, .ref 40], M29)) rfl ?_
          refine pm_icI (as := [.ref 40, .int a2]) (rest := []) rfl rfl rfl rfl (Nat.le_of_ble_eq_true rfl) rfl (fun r h => pm_Ev_mono (Nat.le_of_ble_eq_true rfl) (sSheet_hasItem_40_ok a2 M29 r h)) (fun v32 M31 => ?_)
          show pm_Im _ _ _ _ _ _ (35, [some (.ref 0), some (.int a1), some (.int a2), some (.long a3), none], [.int v32], M31)
          refine pm_iite (σ1 := (41, [some (.ref 0), some (.int a1), some (.int a2), some (.long a3), none], [], M31)) (σ2 := (38, [some (.ref 0), some (.int a1), some (.int a2), some (.long a3), none], [], M31)) rfl (fun _ => ?_) (fun _ => ?_)
          · refine pm_irun 3 (σ' := (46, [some (.ref 0), some (.int a1), some (.int a2), some (.long a3), none], [.int a1, .ref 39], M31)) rfl ?_
            refine pm_iaal rfl ?_ ?_ ?_ ?_
            · show pm_Im _ _ _ _ _ _ (47, [some (.ref 0), some (.int a1), some (.int a2), some (.long a3), none], [.ref 40], M31)
              refine pm_irun 2 (σ' := (49, [some (.ref 0), some (.int a1), some (.int a2), some (.long a3), none], [.long a3, .int a2, .ref 40], M31)) rfl ?_
              refine pm_icV (as := [.ref 40, .int a2, .long a3]) (rest := []) rfl rfl rfl rfl (Nat.le_of_ble_eq_true rfl) rfl (fun r h => pm_Ev_mono (Nat.le_of_ble_eq_true rfl) (sSheet_store_40_ok a2 a3 M31 r h)) (fun M33 => ?_)
              show pm_Im _ _ _ _ _ _ (52, [some (.ref 0), some (.int a1), some (.int a2), some (.long a3), none], [], M33)
              refine pm_irun 1 (σ' := (53, [some (.ref 0), some (.int a1), some (.int a2), some (.long a3), none], [.int (1 : Int32)], M33)) rfl ?_
              exact pm_irI rfl rfl
            · show pm_Im _ _ _ _ _ _ (47, [some (.ref 0), some (.int a1), some (.int a2), some (.long a3), none], [.ref 42], M31)
              refine pm_irun 2 (σ' := (49, [some (.ref 0), some (.int a1), some (.int a2), some (.long a3), none], [.long a3, .int a2, .ref 42], M31)) rfl ?_
              refine pm_icV (as := [.ref 42, .int a2, .long a3]) (rest := []) rfl rfl rfl rfl (Nat.le_of_ble_eq_true rfl) rfl (fun r h => pm_Ev_mono (Nat.le_of_ble_eq_true rfl) (sSheet_store_42_ok a2 a3 M31 r h)) (fun M34 => ?_)
              show pm_Im _ _ _ _ _ _ (52, [some (.ref 0), some (.int a1), some (.int a2), some (.long a3), none], [], M34)
              refine pm_irun 1 (σ' := (53, [some (.ref 0), some (.int a1), some (.int a2), some (.long a3), none], [.int (1 : Int32)], M34)) rfl ?_
              exact pm_irI rfl rfl
            · show pm_Im _ _ _ _ _ _ (47, [some (.ref 0), some (.int a1), some (.int a2), some (.long a3), none], [.ref 44], M31)
              refine pm_irun 2 (σ' := (49, [some (.ref 0), some (.int a1), some (.int a2), some (.long a3), none], [.long a3, .int a2, .ref 44], M31)) rfl ?_
              refine pm_icV (as := [.ref 44, .int a2, .long a3]) (rest := []) rfl rfl rfl rfl (Nat.le_of_ble_eq_true rfl) rfl (fun r h => pm_Ev_mono (Nat.le_of_ble_eq_true rfl) (sSheet_store_44_ok a2 a3 M31 r h)) (fun M35 => ?_)
              show pm_Im _ _ _ _ _ _ (52, [some (.ref 0), some (.int a1), some (.int a2), some (.long a3), none], [], M35)
              refine pm_irun 1 (σ' := (53, [some (.ref 0), some (.int a1), some (.int a2), some (.long a3), none], [.int (1 : Int32)], M35)) rfl ?_
              exact pm_irI rfl rfl
            · show pm_Im _ _ _ _ _ _ (47, [some (.ref 0), some (.int a1), some (.int a2), some (.long a3), none], [.ref 46], M31)
              refine pm_irun 2 (σ' := (49, [some (.ref 0), some (.int a1), some (.int a2), some (.long a3), none], [.long a3, .int a2, .ref 46], M31)) rfl ?_
              refine pm_icV (as := [.ref 46, .int a2, .long a3]) (rest := []) rfl rfl rfl rfl (Nat.le_of_ble_eq_true rfl) rfl (fun r h => pm_Ev_mono (Nat.le_of_ble_eq_true rfl) (sSheet_store_46_ok a2 a3 M31 r h)) (fun M36 => ?_)
              show pm_Im _ _ _ _ _ _ (52, [some (.ref 0), some (.int a1), some (.int a2), some (.long a3), none], [], M36)
              refine pm_irun 1 (σ' := (53, [some (.ref 0), some (.int a1), some (.int a2), some (.long a3), none], [.int (1 : Int32)], M36)) rfl ?_
              exact pm_irI rfl rfl
          · refine pm_irun 1 (σ' := (40, [some (.ref 0), some (.int a1), some (.int a2), some (.long a3), none], [.int (-12 : Int32)], M31)) rfl ?_
            exact pm_irI rfl rfl
        · show pm_Im _ _ _ _ _ _ (31, [some (.ref 0), some (.int a1), some (.int a2), some (.long a3), none], [.ref 42], M29)
          refine pm_irun 1 (σ' := (32, [some (.ref 0), some (.int a1), some (.int a2), some (.long a3), none], [.int a2, .ref 42], M29)) rfl ?_
          refine pm_icI (as := [.ref 42, .int a2]) (rest := []) rfl rfl rfl rfl (Nat.le_of_ble_eq_true rfl) rfl (fun r h => pm_Ev_mono (Nat.le_of_ble_eq_true rfl) (sSheet_hasItem_42_ok a2 M29 r h)) (fun v38 M37 => ?_)
          show pm_Im _ _ _ _ _ _ (35, [some (.ref 0), some (.int a1), some (.int a2), some (.long a3), none], [.int v38], M37)
          refine pm_iite (σ1 := (41, [some (.ref 0), some (.int a1), some (.int a2), some (.long a3), none], [], M37)) (σ2 := (38, [some (.ref 0), some (.int a1), some (.int a2), some (.long a3), none], [], M37)) rfl (fun _ => ?_) (fun _ => ?_)
          · refine pm_irun 3 (σ' := (46, [some (.ref 0), some (.int a1), some (.int a2), some (.long a3), none], [.int a1, .ref 39], M37)) rfl ?_
            refine pm_iaal rfl ?_ ?_ ?_ ?_
            · show pm_Im _ _ _ _ _ _ (47, [some (.ref 0), some (.int a1), some (.int a2), some (.long a3), none], [.ref 40], M37)
              refine pm_irun 2 (σ' := (49, [some (.ref 0), some (.int a1), some (.int a2), some (.long a3), none], [.long a3, .int a2, .ref 40], M37)) rfl ?_
              refine pm_icV (as := [.ref 40, .int a2, .long a3]) (rest := []) rfl rfl rfl rfl (Nat.le_of_ble_eq_true rfl) rfl (fun r h => pm_Ev_mono (Nat.le_of_ble_eq_true rfl) (sSheet_store_40_ok a2 a3 M37 r h)) (fun M39 => ?_)
              show pm_Im _ _ _ _ _ _ (52, [some (.ref 0), some (.int a1), some (.int a2), some (.long a3), none], [], M39)
              refine pm_irun 1 (σ' := (53, [some (.ref 0), some (.int a1), some (.int a2), some (.long a3), none], [.int (1 : Int32)], M39)) rfl ?_
              exact pm_irI rfl rfl
            · show pm_Im _ _ _ _ _ _ (47, [some (.ref 0), some (.int a1), some (.int a2), some (.long a3), none], [.ref 42], M37)
              refine pm_irun 2 (σ' := (49, [some (.ref 0), some (.int a1), some (.int a2), some (.long a3), none], [.long a3, .int a2, .ref 42], M37)) rfl ?_
              refine pm_icV (as := [.ref 42, .int a2, .long a3]) (rest := []) rfl rfl rfl rfl (Nat.le_of_ble_eq_true rfl) rfl (fun r h => pm_Ev_mono (Nat.le_of_ble_eq_true rfl) (sSheet_store_42_ok a2 a3 M37 r h)) (fun M40 => ?_)
              show pm_Im _ _ _ _ _ _ (52, [some (.ref 0), some (.int a1), some (.int a2), some (.long a3), none], [], M40)
              refine pm_irun 1 (σ' := (53, [some (.ref 0), some (.int a1), some (.int a2), some (.long a3), none], [.int (1 : Int32)], M40)) rfl ?_
              exact pm_irI rfl rfl
            · show pm_Im _ _ _ _ _ _ (47, [some (.ref 0), some (.int a1), some (.int a2), some (.long a3), none], [.ref 44], M37)
              refine pm_irun 2 (σ' := (49, [some (.ref 0), some (.int a1), some (.int a2), some (.long a3), none], [.long a3, .int a2, .ref 44], M37)) rfl ?_
              refine pm_icV (as := [.ref 44, .int a2, .long a3]) (rest := []) rfl rfl rfl rfl (Nat.le_of_ble_eq_true rfl) rfl (fun r h => pm_Ev_mono (Nat.le_of_ble_eq_true rfl) (sSheet_store_44_ok a2 a3 M37 r h)) (fun M41 => ?_)
              show pm_Im _ _ _ _ _ _ (52, [some (.ref 0), some (.int a1), some (.int a2), some (.long a3), none], [], M41)
              refine pm_irun 1 (σ' := (53, [some (.ref 0), some (.int a1), some (.int a2), some (.long a3), none], [.int (1 : Int32)], M41)) rfl ?_
              exact pm_irI rfl rfl
            · show pm_Im _ _ _ _ _ _ (47, [some (.ref 0), some (.int a1), some (.int a2), some (.long a3), none], [.ref 46], M37)
              refine pm_irun 2 (σ' := (49, [some (.ref 0), some (.int a1), some (.int a2), some (.long a3), none], [.long a3, .int a2, .ref 46], M37)) rfl ?_
              refine pm_icV (as := [.ref 46, .int a2, .long a3]) (rest := []) rfl rfl rfl rfl (Nat.le_of_ble_eq_true rfl) rfl (fun r h => pm_Ev_mono (Nat.le_of_ble_eq_true rfl) (sSheet_store_46_ok a2 a3 M37 r h)) (fun M42 => ?_)
              show pm_Im _ _ _ _ _ _ (52, [some (.ref 0), some (.int a1), some (.int a2), some (.long a3), none], [], M42)
              refine pm_irun 1 (σ' := (53, [some (.ref 0), some (.int a1), some (.int a2), some (.long a3), none], [.int (1 : Int32)], M42)) rfl ?_
              exact pm_irI rfl rfl
          · refine pm_irun 1 (σ' := (40, [some (.ref 0), some (.int a1), some (.int a2), some (.long a3), none], [.int (-12 : Int32)], M37)) rfl ?_
            exact pm_irI rfl rfl
        · show pm_Im _ _ _ _ _ _ (31, [some (.ref 0), some (.int a1), some (.int a2), some (.long a3), none], [.ref 44], M29)
          refine pm_irun 1 (σ' := (32, [some (.ref 0), some (.int a1), some (.int a2), some (.long a3), none], [.int a2, .ref 44], M29)) rfl ?_
          refine pm_icI (as := [.ref 44, .int a2]) (rest := []) rfl rfl rfl rfl (Nat.le_of_ble_eq_true rfl) rfl (fun r h => pm_Ev_mono (Nat.le_of_ble_eq_true rfl) (sSheet_hasItem_44_ok a2 M29 r h)) (fun v44 M43 => ?_)
          show pm_Im _ _ _ _ _ _ (35, [some (.ref 0), some (.int a1), some (.int a2), some (.long a3), none], [.int v44], M43)
          refine pm_iite (σ1 := (41, [some (.ref 0), some (.int a1), some (.int a2), some (.long a3), none], [], M43)) (σ2 := (38, [some (.ref 0), some (.int a1), some (.int a2), some (.long a3), none], [], M43)) rfl (fun _ => ?_) (fun _ => ?_)
          · refine pm_irun 3 (σ' := (46, [some (.ref 0), some (.int a1), some (.int a2), some (.long a3), none], [.int a1, .ref 39], M43)) rfl ?_
            refine pm_iaal rfl ?_ ?_ ?_ ?_
            · show pm_Im _ _ _ _ _ _ (47, [some (.ref 0), some (.int a1), some (.int a2), some (.long a3), none], [.ref 40], M43)
              refine pm_irun 2 (σ' := (49, [some (.ref 0), some (.int a1), some (.int a2), some (.long a3), none], [.long a3, .int a2, .ref 40], M43)) rfl ?_
              refine pm_icV (as := [.ref 40, .int a2, .long a3]) (rest := []) rfl rfl rfl rfl (Nat.le_of_ble_eq_true rfl) rfl (fun r h => pm_Ev_mono (Nat.le_of_ble_eq_true rfl) (sSheet_store_40_ok a2 a3 M43 r h)) (fun M45 => ?_)
              show pm_Im _ _ _ _ _ _ (52, [some (.ref 0), some (.int a1), some (.int a2), some (.long a3), none], [], M45)
              refine pm_irun 1 (σ' := (53, [some (.ref 0), some (.int a1), some (.int a2), some (.long a3), none], [.int (1 : Int32)], M45)) rfl ?_
              exact pm_irI rfl rfl
            · show pm_Im _ _ _ _ _ _ (47, [some (.ref 0), some (.int a1), some (.int a2), some (.long a3), none], [.ref 42], M43)
              refine pm_irun 2 (σ' := (49, [some (.ref 0), some (.int a1), some (.int a2), some (.long a3), none], [.long a3, .int a2, .ref 42], M43)) rfl ?_
              refine pm_icV (as := [.ref 42, .int a2, .long a3]) (rest := []) rfl rfl rfl rfl (Nat.le_of_ble_eq_true rfl) rfl (fun r h => pm_Ev_mono (Nat.le_of_ble_eq_true rfl) (sSheet_store_42_ok a2 a3 M43 r h)) (fun M46 => ?_)
              show pm_Im _ _ _ _ _ _ (52, [some (.ref 0), some (.int a1), some (.int a2), some (.long a3), none], [], M46)
              refine pm_irun 1 (σ' := (53, [some (.ref 0), some (.int a1), some (.int a2), some (.long a3), none], [.int (1 : Int32)], M46)) rfl ?_
              exact pm_irI rfl rfl
            · show pm_Im _ _ _ _ _ _ (47, [some (.ref 0), some (.int a1), some (.int a2), some (.long a3), none], [.ref 44], M43)
              refine pm_irun 2 (σ' := (49, [some (.ref 0), some (.int a1), some (.int a2), some (.long a3), none], [.long a3, .int a2, .ref 44], M43)) rfl ?_
              refine pm_icV (as := [.ref 44, .int a2, .long a3]) (rest := []) rfl rfl rfl rfl (Nat.le_of_ble_eq_true rfl) rfl (fun r h => pm_Ev_mono (Nat.le_of_ble_eq_true rfl) (sSheet_store_44_ok a2 a3 M43 r h)) (fun M47 => ?_)
              show pm_Im _ _ _ _ _ _ (52, [some (.ref 0), some (.int a1), some (.int a2), some (.long a3), none], [], M47)
              refine pm_irun 1 (σ' := (53, [some (.ref 0), some (.int a1), some (.int a2), some (.long a3), none], [.int (1 : Int32)], M47)) rfl ?_
              exact pm_irI rfl rfl
            · show pm_Im _ _ _ _ _ _ (47, [some (.ref 0), some (.int a1), some (.int a2), some (.long a3), none], [.ref 46], M43)
              refine pm_irun 2 (σ' := (49, [some (.ref 0), some (.int a1), some (.int a2), some (.long a3), none], [.long a3, .int a2, .ref 46], M43)) rfl ?_
              refine pm_icV (as := [.ref 46, .int a2, .long a3]) (rest := []) rfl rfl rfl rfl (Nat.le_of_ble_eq_true rfl) rfl (fun r h => pm_Ev_mono (Nat.le_of_ble_eq_true rfl) (sSheet_store_46_ok a2 a3 M43 r h)) (fun M48 => ?_)
              show pm_Im _ _ _ _ _ _ (52, [some (.ref 0), some (.int a1), some (.int a2), some (.long a3), none], [], M48)
              refine pm_irun 1 (σ' := (53, [some (.ref 0), some (.int a1), some (.int a2), some (.long a3), none], [.int (1 : Int32)], M48)) rfl ?_
              exact pm_irI rfl rfl
          · refine pm_irun 1 (σ' := (40, [some (.ref 0), some (.int a1), some (.int a2), some (.long a3), none], [.int (-12 : Int32)], M43)) rfl ?_
            exact pm_irI rfl rfl
        · show pm_Im _ _ _ _ _ _ (31, [some (.ref 0), some (.int a1), some (.int a2), some (.long a3), none], [.ref 46], M29)
          refine pm_irun 1 (σ' := (32, [some (.ref 0), some (.int a1), some (.int a2), some (.long a3), none], [.int a2, .ref 46], M29)) rfl ?_
          refine pm_icI (as := [.ref 46, .int a2]) (rest := []) rfl rfl rfl rfl (Nat.le_of_ble_eq_true rfl) rfl (fun r h => pm_Ev_mono (Nat.le_of_ble_eq_true rfl) (sSheet_hasItem_46_ok a2 M29 r h)) (fun v50 M49 => ?_)
          show pm_Im _ _ _ _ _ _ (35, [some (.ref 0), some (.int a1), some (.int a2), some (.long a3), none], [.int v50], M49)
          refine pm_iite (σ1 := (41, [some (.ref 0), some (.int a1), some (.int a2), some (.long a3), none], [], M49)) (σ2 := (38, [some (.ref 0), some (.int a1), some (.int a2), some (.long a3), none], [], M49)) rfl (fun _ => ?_) (fun _ => ?_)
          · refine pm_irun 3 (σ' := (46, [some (.ref 0), some (.int a1), some (.int a2), some (.long a3), none], [.int a1, .ref 39], M49)) rfl ?_
            refine pm_iaal rfl ?_ ?_ ?_ ?_
            · show pm_Im _ _ _ _ _ _ (47, [some (.ref 0), some (.int a1), some (.int a2), some (.long a3), none], [.ref 40], M49)
              refine pm_irun 2 (σ' := (49, [some (.ref 0), some (.int a1), some (.int a2), some (.long a3), none], [.long a3, .int a2, .ref 40], M49)) rfl ?_
              refine pm_icV (as := [.ref 40, .int a2, .long a3]) (rest := []) rfl rfl rfl rfl (Nat.le_of_ble_eq_true rfl) rfl (fun r h => pm_Ev_mono (Nat.le_of_ble_eq_true rfl) (sSheet_store_40_ok a2 a3 M49 r h)) (fun M51 => ?_)
              show pm_Im _ _ _ _ _ _ (52, [some (.ref 0), some (.int a1), some (.int a2), some (.long a3), none], [], M51)
              refine pm_irun 1 (σ' := (53, [some (.ref 0), some (.int a1), some (.int a2), some (.long a3), none], [.int (1 : Int32)], M51)) rfl ?_
              exact pm_irI rfl rfl
            · show pm_Im _ _ _ _ _ _ (47, [some (.ref 0), some (.int a1), some (.int a2), some (.long a3), none], [.ref 42], M49)
              refine pm_irun 2 (σ' := (49, [some (.ref 0), some (.int a1), some (.int a2), some (.long a3), none], [.long a3, .int a2, .ref 42], M49)) rfl ?_
              refine pm_icV (as := [.ref 42, .int a2, .long a3]) (rest := []) rfl rfl rfl rfl (Nat.le_of_ble_eq_true rfl) rfl (fun r h => pm_Ev_mono (Nat.le_of_ble_eq_true rfl) (sSheet_store_42_ok a2 a3 M49 r h)) (fun M52 => ?_)
              show pm_Im _ _ _ _ _ _ (52, [some (.ref 0), some (.int a1), some (.int a2), some (.long a3), none], [], M52)
              refine pm_irun 1 (σ' := (53, [some (.ref 0), some (.int a1), some (.int a2), some (.long a3), none], [.int (1 : Int32)], M52)) rfl ?_
              exact pm_irI rfl rfl
            · show pm_Im _ _ _ _ _ _ (47, [some (.ref 0), some (.int a1), some (.int a2), some (.long a3), none], [.ref 44], M49)
              refine pm_irun 2 (σ' := (49, [some (.ref 0), some (.int a1), some (.int a2), some (.long a3), none], [.long a3, .int a2, .ref 44], M49)) rfl ?_
              refine pm_icV (as := [.ref 44, .int a2, .long a3]) (rest := []) rfl rfl rfl rfl (Nat.le_of_ble_eq_true rfl) rfl (fun r h => pm_Ev_mono (Nat.le_of_ble_eq_true rfl) (sSheet_store_44_ok a2 a3 M49 r h)) (fun M53 => ?_)
              show pm_Im _ _ _ _ _ _ (52, [some (.ref 0), some (.int a1), some (.int a2), some (.long a3), none], [], M53)
              refine pm_irun 1 (σ' := (53, [some (.ref 0), some (.int a1), some (.int a2), some (.long a3), none], [.int (1 : Int32)], M53)) rfl ?_
              exact pm_irI rfl rfl
            · show pm_Im _ _ _ _ _ _ (47, [some (.ref 0), some (.int a1), some (.int a2), some (.long a3), none], [.ref 46], M49)
              refine pm_irun 2 (σ' := (49, [some (.ref 0), some (.int a1), some (.int a2), some (.long a3), none], [.long a3, .int a2, .ref 46], M49)) rfl ?_
              refine pm_icV (as := [.ref 46, .int a2, .long a3]) (rest := []) rfl rfl rfl rfl (Nat.le_of_ble_eq_true rfl) rfl (fun r h => pm_Ev_mono (Nat.le_of_ble_eq_true rfl) (sSheet_store_46_ok a2 a3 M49 r h)) (fun M54 => ?_)
              show pm_Im _ _ _ _ _ _ (52, [some (.ref 0), some (.int a1), some (.int a2), some (.long a3), none], [], M54)
              refine pm_irun 1 (σ' := (53, [some (.ref 0), some (.int a1), some (.int a2), some (.long a3), none], [.int (1 : Int32)], M54)) rfl ?_
              exact pm_irI rfl rfl
          · refine pm_irun 1 (σ' := (40, [some (.ref 0), some (.int a1), some (.int a2), some (.long a3), none], [.int (-12 : Int32)], M49)) rfl ?_
            exact pm_irI rfl rfl
      · refine pm_irun 1 (σ' := (24, [some (.ref 0), some (.int a1), some (.int a2), some (.long a3), none], [.int (-11 : Int32)], M29)) rfl ?_
        exact pm_irI rfl rfl
    · show pm_Im _ _ _ _ _ _ (16, [some (.ref 0), some (.int a1), some (.int a2), some (.long a3), none], [.ref 44], M1)
      refine pm_icI (as := [.ref 44]) (rest := []) rfl rfl rfl rfl (Nat.le_of_ble_eq_true rfl) rfl (fun r h => pm_Ev_mono (Nat.le_of_ble_eq_true rfl) (sSheet_isMissing_44_ok M1 r h)) (fun v56 M55 => ?_)
      show pm_Im _ _ _ _ _ _ (19, [some (.ref 0), some (.int a1), some (.int a2), some (.long a3), none], [.int v56], M55)
      refine pm_iite (σ1 := (25, [some (.ref 0), some (.int a1), some (.int a2), some (.long a3), none], [], M55)) (σ2 := (22, [some (.ref 0), some (.int a1), some (.int a2), some (.long a3), none], [], M55)) rfl (fun _ => ?_) (fun _ => ?_)
      · refine pm_irun 3 (σ' := (30, [some (.ref 0), some (.int a1), some (.int a2), some (.long a3), none], [.int a1, .ref 39], M55)) rfl ?_
        refine pm_iaal rfl ?_ ?_ ?_ ?_
        · show pm_Im _ _ _ _ _ _ (31, [some (.ref 0), some (.int a1), some (.int a2), some (.long a3), none], [.ref 40], M55)
          refine pm_irun 1 (σ' := (32, [some (.ref 0), some (.int a1), some (.int a2), some (.long a3), none], [.int a2, .ref 40], M55)) rfl ?_
          refine pm_icI (as := [.ref 40, .int a2]) (rest := []) rfl rfl rfl rfl (Nat.le_of_ble_eq_true rfl) rfl (fun r h => pm_Ev_mono (Nat.le_of_ble_eq_true rfl) (sSheet_hasItem_40_ok a2 M55 r h)) (fun v58 M57 => ?_)
          show pm_Im _ _ _ _ _ _ (35, [some (.ref 0), some (.int a1), some (.int a2), some (.long a3), none], [.int v58], M57)
          refine pm_iite (σ1 := (41, [some (.ref 0), some (.int a1), some (.int a2), some (.long a3), none], [], M57)) (σ2 := (38, [some (.ref 0), some (.int a1), some (.int a2), some (.long a3), none], [], M57)) rfl (fun _ => ?_) (fun _ => ?_)
          · refine pm_irun 3 (σ' := (46, [some (.ref 0), some (.int a1), some (.int a2), some (.long a3), none], [.int a1, .ref 39], M57)) rfl ?_
            refine pm_iaal rfl ?_ ?_ ?_ ?_
            · show pm_Im _ _ _ _ _ _ (47, [some (.ref 0), some (.int a1), some (.int a2), some (.long a3), none], [.ref 40], M57)
              refine pm_irun 2 (σ' := (49, [some (.ref 0), some (.int a1), some (.int a2), some (.long a3), none], [.long a3, .int a2, .ref 40], M57)) rfl ?_
              refine pm_icV (as := [.ref 40, .int a2, .long a3]) (rest := []) rfl rfl rfl rfl (Nat.le_of_ble_eq_true rfl) rfl (fun r h => pm_Ev_mono (Nat.le_of_ble_eq_true rfl) (sSheet_store_40_ok a2 a3 M57 r h)) (fun M59 => ?_)
              show pm_Im _ _ _ _ _ _ (52, [some (.ref 0), some (.int a1), some (.int a2), some (.long a3), none], [], M59)
              refine pm_irun 1 (σ' := (53, [some (.ref 0), some (.int a1), some (.int a2), some (.long a3), none], [.int (1 : Int32)], M59)) rfl ?_
              exact pm_irI rfl rfl
            · show pm_Im _ _ _ _ _ _ (47, [some (.ref 0), some (.int a1), some (.int a2), some (.long a3), none], [.ref 42], M57)
              refine pm_irun 2 (σ' := (49, [some (.ref 0), some (.int a1), some (.int a2), some (.long a3), none], [.long a3, .int a2, .ref 42], M57)) rfl ?_
              refine pm_icV (as := [.ref 42, .int a2, .long a3]) (rest := []) rfl rfl rfl rfl (Nat.le_of_ble_eq_true rfl) rfl (fun r h => pm_Ev_mono (Nat.le_of_ble_eq_true rfl) (sSheet_store_42_ok a2 a3 M57 r h)) (fun M60 => ?_)
              show pm_Im _ _ _ _ _ _ (52, [some (.ref 0), some (.int a1), some (.int a2), some (.long a3), none], [], M60)
              refine pm_irun 1 (σ' := (53, [some (.ref 0), some (.int a1), some (.int a2), some (.long a3), none], [.int (1 : Int32)], M60)) rfl ?_
              exact pm_irI rfl rfl
            · show pm_Im _ _ _ _ _ _ (47, [some (.ref 0), some (.int a1), some (.int a2), some (.long a3), none], [.ref 44], M57)
              refine pm_irun 2 (σ' := (49, [some (.ref 0), some (.int a1), some (.int a2), some (.long a3), none], [.long a3, .int a2, .ref 44], M57)) rfl ?_
              refine pm_icV (as := [.ref 44, .int a2, .long a3]) (rest := []) rfl rfl rfl rfl (Nat.le_of_ble_eq_true rfl) rfl (fun r h => pm_Ev_mono (Nat.le_of_ble_eq_true rfl) (sSheet_store_44_ok a2 a3 M57 r h)) (fun M61 => ?_)
              show pm_Im _ _ _ _ _ _ (52, [some (.ref 0), some (.int a1), some (.int a2), some (.long a3), none], [], M61)
              refine pm_irun 1 (σ' := (53, [some (.ref 0), some (.int a1), some (.int a2), some (.long a3), none], [.int (1 : Int32)], M61)) rfl ?_
              exact pm_irI rfl rfl
            · show pm_Im _ _ _ _ _ _ (47, [some (.ref 0), some (.int a1), some (.int a2), some (.long a3), none], [.ref 46], M57)
              refine pm_irun 2 (σ' := (49, [some (.ref 0), some (.int a1), some (.int a2), some (.long a3), none], [.long a3, .int a2, .ref 46], M57)) rfl ?_
              refine pm_icV (as := [.ref 46, .int a2, .long a3]) (rest := []) rfl rfl rfl rfl (Nat.le_of_ble_eq_true rfl) rfl (fun r h => pm_Ev_mono (Nat.le_of_ble_eq_true rfl) (sSheet_store_46_ok a2 a3 M57 r h)) (fun M62 => ?_)
              show pm_Im _ _ _ _ _ _ (52, [some (.ref 0), some (.int a1), some (.int a2), some (.long a3), none], [], M62)
              refine pm_irun 1 (σ' := (53, [some (.ref 0), some (.int a1), some (.int a2), some (.long a3), none], [.int (1 : Int32)], M62)) rfl ?_
              exact pm_irI rfl rfl
          · refine pm_irun 1 (σ' := (40, [some (.ref 0), some (.int a1), some (.int a2), some (.long a3), none], [.int (-12 : Int32)], M57)) rfl ?_
            exact pm_irI rfl rfl
        · show pm_Im _ _ _ _ _ _ (31, [some (.ref 0), some (.int a1), some (.int a2), some (.long a3), none], [.ref 42], M55)
          refine pm_irun 1 (σ' := (32, [some (.ref 0), some (.int a1), some (.int a2), some (.long a3), none], [.int a2, .ref 42], M55)) rfl ?_
          refine pm_icI (as := [.ref 42, .int a2]) (rest := []) rfl rfl rfl rfl (Nat.le_of_ble_eq_true rfl) rfl (fun r h => pm_Ev_mono (Nat.le_of_ble_eq_true rfl) (sSheet_hasItem_42_ok a2 M55 r h)) (fun v64 M63 => ?_)
          show pm_Im _ _ _ _ _ _ (35, [some (.ref 0), some (.int a1), some (.int a2), some (.long a3), none], [.int v64], M63)
          refine pm_iite (σ1 := (41, [some (.ref 0), some (.int a1), some (.int a2), some (.long a3), none], [], M63)) (σ2 := (38, [some (.ref 0), some (.int a1), some (.int a2), some (.long a3), none], [], M63)) rfl (fun _ => ?_) (fun _ => ?_)
          · refine pm_irun 3 (σ' := (46, [some (.ref 0), some (.int a1), some (.int a2), some (.long a3), none], [.int a1, .ref 39], M63)) rfl ?_
            refine pm_iaal rfl ?_ ?_ ?_ ?_
            · show pm_Im _ _ _ _ _ _ (47, [some (.ref 0), some (.int a1), some (.int a2), some (.long a3), none], [.ref 40], M63)
              refine pm_irun 2 (σ' := (49, [some (.ref 0), some (.int a1), some (.int a2), some (.long a3), none], [.long a3, .int a2, .ref 40], M63)) rfl ?_
              refine pm_icV (as := [.ref 40, .int a2, .long a3]) (rest := []) rfl rfl rfl rfl (Nat.le_of_ble_eq_true rfl) rfl (fun r h => pm_Ev_mono (Nat.le_of_ble_eq_true rfl) (sSheet_store_40_ok a2 a3 M63 r h)) (fun M65 => ?_)
              show pm_Im _ _ _ _ _ _ (52, [some (.ref 0), some (.int a1), some (.int a2), some (.long a3), none], [], M65)
              refine pm_irun 1 (σ' := (53, [some (.ref 0), some (.int a1), some (.int a2), some (.long a3), none], [.int (1 : Int32)], M65)) rfl ?_
              exact pm_irI rfl rfl
            · show pm_Im _ _ _ _ _ _ (47, [some (.ref 0), some (.int a1), some (.int a2), some (.long a3), none], [.ref 42], M63)
              refine pm_irun 2 (σ' := (49, [some (.ref 0), some (.int a1), some (.int a2), some (.long a3), none], [.long a3, .int a2, .ref 42], M63)) rfl ?_
              refine pm_icV (as := [.ref 42, .int a2, .long a3]) (rest := []) rfl rfl rfl rfl (Nat.le_of_ble_eq_true rfl) rfl (fun r h => pm_Ev_mono (Nat.le_of_ble_eq_true rfl) (sSheet_store_42_ok a2 a3 M63 r h)) (fun M66 => ?_)
              show pm_Im _ _ _ _ _ _ (52, [some (.ref 0), some (.int a1), some (.int a2), some (.long a3), none], [], M66)
              refine pm_irun 1 (σ' := (53, [some (.ref 0), some (.int a1), some (.int a2), some (.long a3), none], [.int (1 : Int32)], M66)) rfl ?_
              exact pm_irI rfl rfl
            · show pm_Im _ _ _ _ _ _ (47, [some (.ref 0), some (.int a1), some (.int a2), some (.long a3), none], [.ref 44], M63)
              refine pm_irun 2 (σ' := (49, [some (.ref 0), some (.int a1), some (.int a2), some (.long a3), none], [.long a3, .int a2, .ref 44], M63)) rfl ?_
              refine pm_icV (as := [.ref 44, .int a2, .long a3]) (rest := []) rfl rfl rfl rfl (Nat.le_of_ble_eq_true rfl) rfl (fun r h => pm_Ev_mono (Nat.le_of_ble_eq_true rfl) (sSheet_store_44_ok a2 a3 M63 r h)) (fun M67 => ?_)
              show pm_Im _ _ _ _ _ _ (52, [some (.ref 0), some (.int a1), some (.int a2), some (.long a3), none], [], M67)
              refine pm_irun 1 (σ' := (53, [some (.ref 0), some (.int a1), some (.int a2), some (.long a3), none], [.int (1 : Int32)], M67)) rfl ?_
              exact pm_irI rfl rfl
            · show pm_Im _ _ _ _ _ _ (47, [some (.ref 0), some (.int a1), some (.int a2), some (.long a3), none], [.ref 46], M63)
              refine pm_irun 2 (σ' := (49, [some (.ref 0), some (.int a1), some (.int a2), some (.long a3), none], [.long a3, .int a2, .ref 46], M63)) rfl ?_
              refine pm_icV (as := [.ref 46, .int a2, .long a3]) (rest := []) rfl rfl rfl rfl (Nat.le_of_ble_eq_true rfl) rfl (fun r h => pm_Ev_mono (Nat.le_of_ble_eq_true rfl) (sSheet_store_46_ok a2 a3 M63 r h)) (fun M68 => ?_)
              show pm_Im _ _ _ _ _ _ (52, [some (.ref 0), some (.int a1), some (.int a2), some (.long a3), none], [], M68)
              refine pm_irun 1 (σ' := (53, [some (.ref 0), some (.int a1), some (.int a2), some (.long a3), none], [.int (1 : Int32)], M68)) rfl ?_
              exact pm_irI rfl rfl
          · refine pm_irun 1 (σ' := (40, [some (.ref 0), some (.int a1), some (.int a2), some (.long a3), none], [.int (-12 : Int32)], M63)) rfl ?_
            exact pm_irI rfl rfl
        · show pm_Im _ _ _ _ _ _ (31, [some (.ref 0), some (.int a1), some (.int a2), some (.long a3), none], [.ref 44], M55)
          refine pm_irun 1 (σ' := (32, [some (.ref 0), some (.int a1), some (.int a2), some (.long a3), none], [.int a2, .ref 44], M55)) rfl ?_
          refine pm_icI (as := [.ref 44, .int a2]) (rest := []) rfl rfl rfl rfl (Nat.le_of_ble_eq_true rfl) rfl (fun r h => pm_Ev_mono (Nat.le_of_ble_eq_true rfl) (sSheet_hasItem_44_ok a2 M55 r h)) (fun v70 M69 => ?_)
          show pm_Im _ _ _ _ _ _ (35, [some (.ref 0), some (.int a1), some (.int a2), some (.long a3), none], [.int v70], M69)
          refine pm_iite (σ1 := (41, [some (.ref 0), some (.int a1), some (.int a2), some (.long a3), none], [], M69)) (σ2 := (38, [some (.ref 0), some (.int a1), some (.int a2), some (.long a3), none], [], M69)) rfl (fun _ => ?_) (fun _ => ?_)
          · refine pm_irun 3 (σ' := (46, [some (.ref 0), some (.int a1), some (.int a2), some (.long a3), none], [.int a1, .ref 39], M69)) rfl ?_
            refine pm_iaal rfl ?_ ?_ ?_ ?_
            · show pm_Im _ _ _ _ _ _ (47, [some (.ref 0), some (.int a1), some (.int a2), some (.long a3), none], [.ref 40], M69)
              refine pm_irun 2 (σ' := (49, [some (.ref 0), some (.int a1), some (.int a2), some (.long a3), none], [.long a3, .int a2, .ref 40], M69)) rfl ?_
              refine pm_icV (as := [.ref 40, .int a2, .long a3]) (rest := []) rfl rfl rfl rfl (Nat.le_of_ble_eq_true rfl) rfl (fun r h => pm_Ev_mono (Nat.le_of_ble_eq_true rfl) (sSheet_store_40_ok a2 a3 M69 r h)) (fun M71 => ?_)
              show pm_Im _ _ _ _ _ _ (52, [some (.ref 0), some (.int a1), some (.int a2), some (.long a3), none], [], M71)
              refine pm_irun 1 (σ' := (53, [some (.ref 0), some (.int a1), some (.int a2), some (.long a3), none], [.int (1 : Int32)], M71)) rfl ?_
              exact pm_irI rfl rfl
            · show pm_Im _ _ _ _ _ _ (47, [some (.ref 0), some (.int a1), some (.int a2), some (.long a3), none], [.ref 42], M69)
              refine pm_irun 2 (σ' := (49, [some (.ref 0), some (.int a1), some (.int a2), some (.long a3), none], [.long a3, .int a2, .ref 42], M69)) rfl ?_
              refine pm_icV (as := [.ref 42, .int a2, .long a3]) (rest := []) rfl rfl rfl rfl (Nat.le_of_ble_eq_true rfl) rfl (fun r h => pm_Ev_mono (Nat.le_of_ble_eq_true rfl) (sSheet_store_42_ok a2 a3 M69 r h)) (fun M72 => ?_)
              show pm_Im _ _ _ _ _ _ (52, [some (.ref 0), some (.int a1), some (.int a2), some (.long a3), none], [], M72)
              refine pm_irun 1 (σ' := (53, [some (.ref 0), some (.int a1), some (.int a2), some (.long a3), none], [.int (1 : Int32)], M72)) rfl ?_
              exact pm_irI rfl rfl
            · show pm_Im _ _ _ _ _ _ (47, [some (.ref 0), some (.int a1), some (.int a2), some (.long a3), none], [.ref 44], M69)
              refine pm_irun 2 (σ' := (49, [some (.ref 0), some (.int a1), some (.int a2), some (.long a3), none], [.long a3, .int a2, .ref 44], M69)) rfl ?_
              refine pm_icV (as := [.ref 44, .int a2, .long a3]) (rest := []) rfl rfl rfl rfl (Nat.le_of_ble_eq_true rfl) rfl (fun r h => pm_Ev_mono (Nat.le_of_ble_eq_true rfl) (sSheet_store_44_ok a2 a3 M69 r h)) (fun M73 => ?_)
              show pm_Im _ _ _ _ _ _ (52, [some (.ref 0), some (.int a1), some (.int a2), some (.long a3), none], [], M73)
              refine pm_irun 1 (σ' := (53, [some (.ref 0), some (.int a1), some (.int a2), some (.long a3), none], [.int (1 : Int32)], M73)) rfl ?_
              exact pm_irI rfl rfl
            · show pm_Im _ _ _ _ _ _ (47, [some (.ref 0), some (.int a1), some (.int a2), some (.long a3), none], [.ref 46], M69)
              refine pm_irun 2 (σ' := (49, [some (.ref 0), some (.int a1), some (.int a2), some (.long a3), none], [.long a3, .int a2, .ref 46], M69)) rfl ?_
              refine pm_icV (as := [.ref 46, .int a2, .long a3]) (rest := []) rfl rfl rfl rfl (Nat.le_of_ble_eq_true rfl) rfl (fun r h => pm_Ev_mono (Nat.le_of_ble_eq_true rfl) (sSheet_store_46_ok a2 a3 M69 r h)) (fun M74 => ?_)
              show pm_Im _ _ _ _ _ _ (52, [some (.ref 0), some (.int a1), some (.int a2), some (.long a3), none], [], M74)
              refine pm_irun 1 (σ' := (53, [some (.ref 0), some (.int a1), some (.int a2), some (.long a3), none], [.int (1 : Int32)], M74)) rfl ?_
              exact pm_irI rfl rfl
          · refine pm_irun 1 (σ' := (40, [some (.ref 0), some (.int a1), some (.int a2), some (.long a3), none], [.int (-12 : Int32)], M69)) rfl ?_
            exact pm_irI rfl rfl
        · show pm_Im _ _ _ _ _ _ (31, [some (.ref 0), some (.int a1), some (.int a2), some (.long a3), none], [.ref 46], M55)
          refine pm_irun 1 (σ' := (32, [some (.ref 0), some (.int a1), some (.int a2), some (.long a3), none], [.int a2, .ref 46], M55)) rfl ?_
          refine pm_icI (as := [.ref 46, .int a2]) (rest := []) rfl rfl rfl rfl (Nat.le_of_ble_eq_true rfl) rfl (fun r h => pm_Ev_mono (Nat.le_of_ble_eq_true rfl) (sSheet_hasItem_46_ok a2 M55 r h)) (fun v76 M75 => ?_)
          show pm_Im _ _ _ _ _ _ (35, [some (.ref 0), some (.int a1), some (.int a2), some (.long a3), none], [.int v76], M75)
          refine pm_iite (σ1 := (41, [some (.ref 0), some (.int a1), some (.int a2), some (.long a3), none], [], M75)) (σ2 := (38, [some (.ref 0), some (.int a1), some (.int a2), some (.long a3), none], [], M75)) rfl (fun _ => ?_) (fun _ => ?_)
          · refine pm_irun 3 (σ' := (46, [some (.ref 0), some (.int a1), some (.int a2), some (.long a3), none], [.int a1, .ref 39], M75)) rfl ?_
            refine pm_iaal rfl ?_ ?_ ?_ ?_
            · show pm_Im _ _ _ _ _ _ (47, [some (.ref 0), some (.int a1), some (.int a2), some (.long a3), none], [.ref 40], M75)
              refine pm_irun 2 (σ' := (49, [some (.ref 0), some (.int a1), some (.int a2), some (.long a3), none], [.long a3, .int a2, .ref 40], M75)) rfl ?_
              refine pm_icV (as := [.ref 40, .int a2, .long a3]) (rest := []) rfl rfl rfl rfl (Nat.le_of_ble_eq_true rfl) rfl (fun r h => pm_Ev_mono (Nat.le_of_ble_eq_true rfl) (sSheet_store_40_ok a2 a3 M75 r h)) (fun M77 => ?_)
              show pm_Im _ _ _ _ _ _ (52, [some (.ref 0), some (.int a1), some (.int a2), some (.long a3), none], [], M77)
              refine pm_irun 1 (σ' := (53, [some (.ref 0), some (.int a1), some (.int a2), some (.long a3), none], [.int (1 : Int32)], M77)) rfl ?_
              exact pm_irI rfl rfl
            · show pm_Im _ _ _ _ _ _ (47, [some (.ref 0), some (.int a1), some (.int a2), some (.long a3), none], [.ref 42], M75)
              refine pm_irun 2 (σ' := (49, [some (.ref 0), some (.int a1), some (.int a2), some (.long a3), none], [.long a3, .int a2, .ref 42], M75)) rfl ?_
              refine pm_icV (as := [.ref 42, .int a2, .long a3]) (rest := []) rfl rfl rfl rfl (Nat.le_of_ble_eq_true rfl) rfl (fun r h => pm_Ev_mono (Nat.le_of_ble_eq_true rfl) (sSheet_store_42_ok a2 a3 M75 r h)) (fun M78 => ?_)
              show pm_Im _ _ _ _ _ _ (52, [some (.ref 0), some (.int a1), some (.int a2), some (.long a3), none], [], M78)
              refine pm_irun 1 (σ' := (53, [some (.ref 0), some (.int a1), some (.int a2), some (.long a3), none], [.int (1 : Int32)], M78)) rfl ?_
              exact pm_irI rfl rfl
            · show pm_Im _ _ _ _ _ _ (47, [some (.ref 0), some (.int a1), some (.int a2), some (.long a3), none], [.ref 44], M75)
              refine pm_irun 2 (σ' := (49, [some (.ref 0), some (.int a1), some (.int a2), some (.long a3), none], [.long a3, .int a2, .ref 44], M75)) rfl ?_
              refine pm_icV (as := [.ref 44, .int a2, .long a3]) (rest := []) rfl rfl rfl rfl (Nat.le_of_ble_eq_true rfl) rfl (fun r h => pm_Ev_mono (Nat.le_of_ble_eq_true rfl) (sSheet_store_44_ok a2 a3 M75 r h)) (fun M79 => ?_)
              show pm_Im _ _ _ _ _ _ (52, [some (.ref 0), some (.int a1), some (.int a2), some (.long a3), none], [], M79)
              refine pm_irun 1 (σ' := (53, [some (.ref 0), some (.int a1), some (.int a2), some (.long a3), none], [.int (1 : Int32)], M79)) rfl ?_
              exact pm_irI rfl rfl
            · show pm_Im _ _ _ _ _ _ (47, [some (.ref 0), some (.int a1), some (.int a2), some (.long a3), none], [.ref 46], M75)
              refine pm_irun 2 (σ' := (49, [some (.ref 0), some (.int a1), some (.int a2), some (.long a3), none], [.long a3, .int a2, .ref 46], M75)) rfl ?_
              refine pm_icV (as := [.ref 46, .int a2, .long a3]) (rest := []) rfl rfl rfl rfl (Nat.le_of_ble_eq_true rfl) rfl (fun r h => pm_Ev_mono (Nat.le_of_ble_eq_true rfl) (sSheet_store_46_ok a2 a3 M75 r h)) (fun M80 => ?_)
              show pm_Im _ _ _ _ _ _ (52, [some (.ref 0), some (.int a1), some (.int a2), some (.long a3), none], [], M80)
              refine pm_irun 1 (σ' := (53, [some (.ref 0), some (.int a1), some (.int a2), some (.long a3), none], [.int (1 : Int32)], M80)) rfl ?_
              exact pm_irI rfl rfl
          · refine pm_irun 1 (σ' := (40, [some (.ref 0), some (.int a1), some (.int a2), some (.long a3), none], [.int (-12 : Int32)], M75)) rfl ?_
            exact pm_irI rfl rfl
      · refine pm_irun 1 (σ' := (24, [some (.ref 0), some (.int a1), some (.int a2), some (.long a3), none], [.int (-11 : Int32)], M55)) rfl ?_
        exact pm_irI rfl rfl
    · show pm_Im _ _ _ _ _ _ (16, [some (.ref 0), some (.int a1), some (.int a2), some (.long a3), none], [.ref 46], M1)
      refine pm_icI (as := [.ref 46]) (rest := []) rfl rfl rfl rfl (Nat.le_of_ble_eq_true rfl) rfl (fun r h => pm_Ev_mono (Nat.le_of_ble_eq_true rfl) (sSheet_isMissing_46_ok M1 r h)) (fun v82 M81 => ?_)
      show pm_Im _ _ _ _ _ _ (19, [some (.ref 0), some (.int a1), some (.int a2), some (.long a3), none], [.int v82], M81)
      refine pm_iite (σ1 := (25, [some (.ref 0), some (.int a1), some (.int a2), some (.long a3), none], [], M81)) (σ2 := (22, [some (.ref 0), some (.int a1), some (.int a2), some (.long a3), none], [], M81)) rfl (fun _ => ?_) (fun _ => ?_)
      · refine pm_irun 3 (σ' := (30, [some (.ref 0), some (.int a1), some (.int a2), some (.long a3), none], [.int a1, .ref 39], M81)) rfl ?_
        refine pm_iaal rfl ?_ ?_ ?_ ?_
        · show pm_Im _ _ _ _ _ _ (31, [some (.ref 0), some (.int a1), some (.int a2), some (.long a3), none], [.ref 40], M81)
          refine pm_irun 1 (σ' := (32, [some (.ref 0), some (.int a1), some (.int a2), some (.long a3), none], [.int a2, .ref 40], M81)) rfl ?_
          refine pm_icI (as := [.ref 40, .int a2]) (rest := []) rfl rfl rfl rfl (Nat.le_of_ble_eq_true rfl) rfl (fun r h => pm_Ev_mono (Nat.le_of_ble_eq_true rfl) (sSheet_hasItem_40_ok a2 M81 r h)) (fun v84 M83 => ?_)
          show pm_Im _ _ _ _ _ _ (35, [some (.ref 0), some (.int a1), some (.int a2), some (.long a3), none], [.int v84], M83)
          refine pm_iite (σ1 := (41, [some (.ref 0), some (.int a1), some (.int a2), some (.long a3), none], [], M83)) (σ2 := (38, [some (.ref 0), some (.int a1), some (.int a2), some (.long a3), none], [], M83)) rfl (fun _ => ?_) (fun _ => ?_)
          · refine pm_irun 3 (σ' := (46, [some (.ref 0), some (.int a1), some (.int a2), some (.long a3), none], [.int a1, .ref 39], M83)) rfl ?_
            refine pm_iaal rfl ?_ ?_ ?_ ?_
            · show pm_Im _ _ _ _ _ _ (47, [some (.ref 0), some (.int a1), some (.int a2), some (.long a3), none], [.ref 40], M83)
              refine pm_irun 2 (σ' := (49, [some (.ref 0), some (.int a1), some (.int a2), some (.long a3), none], [.long a3, .int a2, .ref 40], M83)) rfl ?_
              refine pm_icV (as := [.ref 40, .int a2, .long a3]) (rest := []) rfl rfl rfl rfl (Nat.le_of_ble_eq_true rfl) rfl (fun r h => pm_Ev_mono (Nat.le_of_ble_eq_true rfl) (sSheet_store_40_ok a2 a3 M83 r h)) (fun M85 => ?_)
              show pm_Im _ _ _ _ _ _ (52, [some (.ref 0), some (.int a1), some (.int a2), some (.long a3), none], [], M85)
              refine pm_irun 1 (σ' := (53, [some (.ref 0), some (.int a1), some (.int a2), some (.long a3), none], [.int (1 : Int32)], M85)) rfl ?_
              exact pm_irI rfl rfl
            · show pm_Im _ _ _ _ _ _ (47, [some (.ref 0), some (.int a1), some (.int a2), some (.long a3), none], [.ref 42], M83)
              refine pm_irun 2 (σ' := (49, [some (.ref 0), some (.int a1), some (.int a2), some (.long a3), none], [.long a3, .int a2, .ref 42], M83)) rfl ?_
              refine pm_icV (as := [.ref 42, .int a2, .long a3]) (rest := []) rfl rfl rfl rfl (Nat.le_of_ble_eq_true rfl) rfl (fun r h => pm_Ev_mono (Nat.le_of_ble_eq_true rfl) (sSheet_store_42_ok a2 a3 M83 r h)) (fun M86 => ?_)
              show pm_Im _ _ _ _ _ _ (52, [some (.ref 0), some (.int a1), some (.int a2), some (.long a3), none], [], M86)
              refine pm_irun 1 (σ' := (53, [some (.ref 0), some (.int a1), some (.int a2), some (.long a3), none], [.int (1 : Int32)], M86)) rfl ?_
              exact pm_irI rfl rfl
            · show pm_Im _ _ _ _ _ _ (47, [some (.ref 0), some (.int a1), some (.int a2), some (.long a3), none], [.ref 44], M83)
              refine pm_irun 2 (σ' := (49, [some (.ref 0), some (.int a1), some (.int a2), some (.long a3), none], [.long a3, .int a2, .ref 44], M83)) rfl ?_
              refine pm_icV (as := [.ref 44, .int a2, .long a3]) (rest := []) rfl rfl rfl rfl (Nat.le_of_ble_eq_true rfl) rfl (fun r h => pm_Ev_mono (Nat.le_of_ble_eq_true rfl) (sSheet_store_44_ok a2 a3 M83 r h)) (fun M87 => ?_)
              show pm_Im _ _ _ _ _ _ (52, [some (.ref 0), some (.int a1), some (.int a2), some (.long a3), none], [], M87)
              refine pm_irun 1 (σ' := (53, [some (.ref 0), some (.int a1), some (.int a2), some (.long a3), none], [.int (1 : Int32)], M87)) rfl ?_
              exact pm_irI rfl rfl
            · show pm_Im _ _ _ _ _ _ (47, [some (.ref 0), some (.int a1), some (.int a2), some (.long a3), none], [.ref 46], M83)
              refine pm_irun 2 (σ' := (49, [some (.ref 0), some (.int a1), some (.int a2), some (.long a3), none], [.long a3, .int a2, .ref 46], M83)) rfl ?_
              refine pm_icV (as := [.ref 46, .int a2, .long a3]) (rest := []) rfl rfl rfl rfl (Nat.le_of_ble_eq_true rfl) rfl (fun r h => pm_Ev_mono (Nat.le_of_ble_eq_true rfl) (sSheet_store_46_ok a2 a3 M83 r h)) (fun M88 => ?_)
              show pm_Im _ _ _ _ _ _ (52, [some (.ref 0), some (.int a1), some (.int a2), some (.long a3), none], [], M88)
              refine pm_irun 1 (σ' := (53, [some (.ref 0), some (.int a1), some (.int a2), some (.long a3), none], [.int (1 : Int32)], M88)) rfl ?_
              exact pm_irI rfl rfl
          · refine pm_irun 1 (σ' := (40, [some (.ref 0), some (.int a1), some (.int a2), some (.long a3), none], [.int (-12 : Int32)], M83)) rfl ?_
            exact pm_irI rfl rfl
        · show pm_Im _ _ _ _ _ _ (31, [some (.ref 0), some (.int a1), some (.int a2), some (.long a3), none], [.ref 42], M81)
          refine pm_irun 1 (σ' := (32, [some (.ref 0), some (.int a1), some (.int a2), some (.long a3), none], [.int a2, .ref 42], M81)) rfl ?_
          refine pm_icI (as := [.ref 42, .int a2]) (rest := []) rfl rfl rfl rfl (Nat.le_of_ble_eq_true rfl) rfl (fun r h => pm_Ev_mono (Nat.le_of_ble_eq_true rfl) (sSheet_hasItem_42_ok a2 M81 r h)) (fun v90 M89 => ?_)
          show pm_Im _ _ _ _ _ _ (35, [some (.ref 0), some (.int a1), some (.int a2), some (.long a3), none], [.int v90], M89)
          refine pm_iite (σ1 := (41, [some (.ref 0), some (.int a1), some (.int a2), some (.long a3), none], [], M89)) (σ2 := (38, [some (.ref 0), some (.int a1), some (.int a2), some (.long a3), none], [], M89)) rfl (fun _ => ?_) (fun _ => ?_)
          · refine pm_irun 3 (σ' := (46, [some (.ref 0), some (.int a1), some (.int a2), some (.long a3), none], [.int a1, .ref 39], M89)) rfl ?_
            refine pm_iaal rfl ?_ ?_ ?_ ?_
            · show pm_Im _ _ _ _ _ _ (47, [some (.ref 0), some (.int a1), some (.int a2), some (.long a3), none], [.ref 40], M89)
              refine pm_irun 2 (σ' := (49, [some (.ref 0), some (.int a1), some (.int a2), some (.long a3), none], [.long a3, .int a2, .ref 40], M89)) rfl ?_
              refine pm_icV (as := [.ref 40, .int a2, .long a3]) (rest := []) rfl rfl rfl rfl (Nat.le_of_ble_eq_true rfl) rfl (fun r h => pm_Ev_mono (Nat.le_of_ble_eq_true rfl) (sSheet_store_40_ok a2 a3 M89 r h)) (fun M91 => ?_)
              show pm_Im _ _ _ _ _ _ (52, [some (.ref 0), some (.int a1), some (.int a2), some (.long a3), none], [], M91)
              refine pm_irun 1 (σ' := (53, [some (.ref 0), some (.int a1), some (.int a2), some (.long a3), none], [.int (1 : Int32)], M91)) rfl ?_
              exact pm_irI rfl rfl
            · show pm_Im _ _ _ _ _ _ (47, [some (.ref 0), some (.int a1), some (.int a2), some (.long a3), none], [.ref 42], M89)
              refine pm_irun 2 (σ' := (49, [some (.ref 0), some (.int a1), some (.int a2), some (.long a3), none], [.long a3, .int a2, .ref 42], M89)) rfl ?_
              refine pm_icV (as := [.ref 42, .int a2, .long a3]) (rest := []) rfl rfl rfl rfl (Nat.le_of_ble_eq_true rfl) rfl (fun r h => pm_Ev_mono (Nat.le_of_ble_eq_true rfl) (sSheet_store_42_ok a2 a3 M89 r h)) (fun M92 => ?_)
              show pm_Im _ _ _ _ _ _ (52, [some (.ref 0), some (.int a1), some (.int a2), some (.long a3), none], [], M92)
              refine pm_irun 1 (σ' := (53, [some (.ref 0), some (.int a1), some (.int a2), some (.long a3), none], [.int (1 : Int32)], M92)) rfl ?_
              exact pm_irI rfl rfl
            · show pm_Im _ _ _ _ _ _ (47, [some (.ref 0), some (.int a1), some (.int a2), some (.long a3), none], [.ref 44], M89)
              refine pm_irun 2 (σ' := (49, [some (.ref 0), some (.int a1), some (.int a2), some (.long a3), none], [.long a3, .int a2, .ref 44], M89)) rfl ?_
              refine pm_icV (as := [.ref 44, .int a2, .long a3]) (rest := []) rfl rfl rfl rfl (Nat.le_of_ble_eq_true rfl) rfl (fun r h => pm_Ev_mono (Nat.le_of_ble_eq_true rfl) (sSheet_store_44_ok a2 a3 M89 r h)) (fun M93 => ?_)
              show pm_Im _ _ _ _ _ _ (52, [some (.ref 0), some (.int a1), some (.int a2), some (.long a3), none], [], M93)
              refine pm_irun 1 (σ' := (53, [some (.ref 0), some (.int a1), some (.int a2), some (.long a3), none], [.int (1 : Int32)], M93)) rfl ?_
              exact pm_irI rfl rfl
            · show pm_Im _ _ _ _ _ _ (47, [some (.ref 0), some (.int a1), some (.int a2), some (.long a3), none], [.ref 46], M89)
              refine pm_irun 2 (σ' := (49, [some (.ref 0), some (.int a1), some (.int a2), some (.long a3), none], [.long a3, .int a2, .ref 46], M89)) rfl ?_
              refine pm_icV (as := [.ref 46, .int a2, .long a3]) (rest := []) rfl rfl rfl rfl (Nat.le_of_ble_eq_true rfl) rfl (fun r h => pm_Ev_mono (Nat.le_of_ble_eq_true rfl) (sSheet_store_46_ok a2 a3 M89 r h)) (fun M94 => ?_)
              show pm_Im _ _ _ _ _ _ (52, [some (.ref 0), some (.int a1), some (.int a2), some (.long a3), none], [], M94)
              refine pm_irun 1 (σ' := (53, [some (.ref 0), some (.int a1), some (.int a2), some (.long a3), none], [.int (1 : Int32)], M94)) rfl ?_
              exact pm_irI rfl rfl
          · refine pm_irun 1 (σ' := (40, [some (.ref 0), some (.int a1), some (.int a2), some (.long a3), none], [.int (-12 : Int32)], M89)) rfl ?_
            exact pm_irI rfl rfl
        · show pm_Im _ _ _ _ _ _ (31, [some (.ref 0), some (.int a1), some (.int a2), some (.long a3), none], [.ref 44], M81)
          refine pm_irun 1 (σ' := (32, [some (.ref 0), some (.int a1), some (.int a2), some (.long a3), none], [.int a2, .ref 44], M81)) rfl ?_
          refine pm_icI (as := [.ref 44, .int a2]) (rest := []) rfl rfl rfl rfl (Nat.le_of_ble_eq_true rfl) rfl (fun r h => pm_Ev_mono (Nat.le_of_ble_eq_true rfl) (sSheet_hasItem_44_ok a2 M81 r h)) (fun v96 M95 => ?_)
          show pm_Im _ _ _ _ _ _ (35, [some (.ref 0), some (.int a1), some (.int a2), some (.long a3), none], [.int v96], M95)
          refine pm_iite (σ1 := (41, [some (.ref 0), some (.int a1), some (.int a2), some (.long a3), none], [], M95)) (σ2 := (38, [some (.ref 0), some (.int a1), some (.int a2), some (.long a3), none], [], M95)) rfl (fun _ => ?_) (fun _ => ?_)
          · refine pm_irun 3 (σ' := (46, [some (.ref 0), some (.int a1), some (.int a2), some (.long a3), none], [.int a1, .ref 39], M95)) rfl ?_
            refine pm_iaal rfl ?_ ?_ ?_ ?_
            · show pm_Im _ _ _ _ _ _ (47, [some (.ref 0), some (.int a1), some (.int a2), some (.long a3), none], [.ref 40], M95)
              refine pm_irun 2 (σ' := (49, [some (.ref 0), some (.int a1), some (.int a2), some (.long a3), none], [.long a3, .int a2, .ref 40], M95)) rfl ?_
              refine pm_icV (as := [.ref 40, .int a2, .long a3]) (rest := []) rfl rfl rfl rfl (Nat.le_of_ble_eq_true rfl) rfl (fun r h => pm_Ev_mono (Nat.le_of_ble_eq_true rfl) (sSheet_store_40_ok a2 a3 M95 r h)) (fun M97 => ?_)
              show pm_Im _ _ _ _ _ _ (52, [some (.ref 0), some (.int a1), some (.int a2), some (.long a3), none], [], M97)
              refine pm_irun 1 (σ' := (53, [some (.ref 0), some (.int a1), some (.int a2), some (.long a3), none], [.int (1 : Int32)], M97)) rfl ?_
              exact pm_irI rfl rfl
            · show pm_Im _ _ _ _ _ _ (47, [some (.ref 0), some (.int a1), some (.int a2), some (.long a3), none], [.ref 42], M95)
              refine pm_irun 2 (σ' := (49, [some (.ref 0), some (.int a1), some (.int a2), some (.long a3), none], [.long a3, .int a2, .ref 42], M95)) rfl ?_
              refine pm_icV (as := [.ref 42, .int a2, .long a3]) (rest := []) rfl rfl rfl rfl (Nat.le_of_ble_eq_true rfl) rfl (fun r h => pm_Ev_mono (Nat.le_of_ble_eq_true rfl) (sSheet_store_42_ok a2 a3 M95 r h)) (fun M98 => ?_)
              show pm_Im _ _ _ _ _ _ (52, [some (.ref 0), some (.int a1), some (.int a2), some (.long a3), none], [], M98)
              refine pm_irun 1 (σ' := (53, [some (.ref 0), some (.int a1), some (.int a2), some (.long a3), none], [.int (1 : Int32)], M98)) rfl ?_
              exact pm_irI rfl rfl
            · show pm_Im _ _ _ _ _ _ (47, [some (.ref 0), some (.int a1), some (.int a2), some (.long a3), none], [.ref 44], M95)
              refine pm_irun 2 (σ' := (49, [some (.ref 0), some (.int a1), some (.int a2), some (.long a3), none], [.long a3, .int a2, .ref 44], M95)) rfl ?_
              refine pm_icV (as := [.ref 44, .int a2, .long a3]) (rest := []) rfl rfl rfl rfl (Nat.le_of_ble_eq_true rfl) rfl (fun r h => pm_Ev_mono (Nat.le_of_ble_eq_true rfl) (sSheet_store_44_ok a2 a3 M95 r h)) (fun M99 => ?_)
              show pm_Im _ _ _ _ _ _ (52, [some (.ref 0), some (.int a1), some (.int a2), some (.long a3), none], [], M99)
              refine pm_irun 1 (σ' := (53, [some (.ref 0), some (.int a1), some (.int a2), some (.long a3), none], [.int (1 : Int32)], M99)) rfl ?_
              exact pm_irI rfl rfl
            · show pm_Im _ _ _ _ _ _ (47, [some (.ref 0), some (.int a1), some (.int a2), some (.long a3), none], [.ref 46], M95)
              refine pm_irun 2 (σ' := (49, [some (.ref 0), some (.int a1), some (.int a2), some (.long a3), none], [.long a3, .int a2, .ref 46], M95)) rfl ?_
              refine pm_icV (as := [.ref 46, .int a2, .long a3]) (rest := []) rfl rfl rfl rfl (Nat.le_of_ble_eq_true rfl) rfl (fun r h => pm_Ev_mono (Nat.le_of_ble_eq_true rfl) (sSheet_store_46_ok a2 a3 M95 r h)) (fun M100 => ?_)
              show pm_Im _ _ _ _ _ _ (52, [some (.ref 0), some (.int a1), some (.int a2), some (.long a3), none], [], M100)
              refine pm_irun 1 (σ' := (53, [some (.ref 0), some (.int a1), some (.int a2), some (.long a3), none], [.int (1 : Int32)], M100)) rfl ?_
              exact pm_irI rfl rfl
          · refine pm_irun 1 (σ' := (40, [some (.ref 0), some (.int a1), some (.int a2), some (.long a3), none], [.int (-12 : Int32)], M95)) rfl ?_
            exact pm_irI rfl rfl
        · show pm_Im _ _ _ _ _ _ (31, [some (.ref 0), some (.int a1), some (.int a2), some (.long a3), none], [.ref 46], M81)
          refine pm_irun 1 (σ' := (32, [some (.ref 0), some (.int a1), some (.int a2), some (.long a3), none], [.int a2, .ref 46], M81)) rfl ?_
          refine pm_icI (as := [.ref 46, .int a2]) (rest := []) rfl rfl rfl rfl (Nat.le_of_ble_eq_true rfl) rfl (fun r h => pm_Ev_mono (Nat.le_of_ble_eq_true rfl) (sSheet_hasItem_46_ok a2 M81 r h)) (fun v102 M101 => ?_)
          show pm_Im _ _ _ _ _ _ (35, [some (.ref 0), some (.int a1), some (.int a2), some (.long a3), none], [.int v102], M101)
          refine pm_iite (σ1 := (41, [some (.ref 0), some (.int a1), some (.int a2), some (.long a3), none], [], M101)) (σ2 := (38, [some (.ref 0), some (.int a1), some (.int a2), some (.long a3), none], [], M101)) rfl (fun _ => ?_) (fun _ => ?_)
          · refine pm_irun 3 (σ' := (46, [some (.ref 0), some (.int a1), some (.int a2), some (.long a3), none], [.int a1, .ref 39], M101)) rfl ?_
            refine pm_iaal rfl ?_ ?_ ?_ ?_
            · show pm_Im _ _ _ _ _ _ (47, [some (.ref 0), some (.int a1), some (.int a2), some (.long a3), none], [.ref 40], M101)
              refine pm_irun 2 (σ' := (49, [some (.ref 0), some (.int a1), some (.int a2), some (.long a3), none], [.long a3, .int a2, .ref 40], M101)) rfl ?_
              refine pm_icV (as := [.ref 40, .int a2, .long a3]) (rest := []) rfl rfl rfl rfl (Nat.le_of_ble_eq_true rfl) rfl (fun r h => pm_Ev_mono (Nat.le_of_ble_eq_true rfl) (sSheet_store_40_ok a2 a3 M101 r h)) (fun M103 => ?_)
              show pm_Im _ _ _ _ _ _ (52, [some (.ref 0), some (.int a1), some (.int a2), some (.long a3), none], [], M103)
              refine pm_irun 1 (σ' := (53, [some (.ref 0), some (.int a1), some (.int a2), some (.long a3), none], [.int (1 : Int32)], M103)) rfl ?_
              exact pm_irI rfl rfl
            · show pm_Im _ _ _ _ _ _ (47, [some (.ref 0), some (.int a1), some (.int a2), some (.long a3), none], [.ref 42], M101)
              refine pm_irun 2 (σ' := (49, [some (.ref 0), some (.int a1), some (.int a2), some (.long a3), none], [.long a3, .int a2, .ref 42], M101)) rfl ?_
              refine pm_icV (as := [.ref 42, .int a2, .long a3]) (rest := []) rfl rfl rfl rfl (Nat.le_of_ble_eq_true rfl) rfl (fun r h => pm_Ev_mono (Nat.le_of_ble_eq_true rfl) (sSheet_store_42_ok a2 a3 M101 r h)) (fun M104 => ?_)
              show pm_Im _ _ _ _ _ _ (52, [some (.ref 0), some (.int a1), some (.int a2), some (.long a3), none], [], M104)
              refine pm_irun 1 (σ' := (53, [some (.ref 0), some (.int a1), some (.int a2), some (.long a3), none], [.int (1 : Int32)], M104)) rfl ?_
              exact pm_irI rfl rfl
            · show pm_Im _ _ _ _ _ _ (47, [some (.ref 0), some (.int a1), some (.int a2), some (.long a3), none], [.ref 44], M101)
              refine pm_irun 2 (σ' := (49, [some (.ref 0), some (.int a1), some (.int a2), some (.long a3), none], [.long a3, .int a2, .ref 44], M101)) rfl ?_
              refine pm_icV (as := [.ref 44, .int a2, .long a3]) (rest := []) rfl rfl rfl rfl (Nat.le_of_ble_eq_true rfl) rfl (fun r h => pm_Ev_mono (Nat.le_of_ble_eq_true rfl) (sSheet_store_44_ok a2 a3 M101 r h)) (fun M105 => ?_)
              show pm_Im _ _ _ _ _ _ (52, [some (.ref 0), some (.int a1), some (.int a2), some (.long a3), none], [], M105)
              refine pm_irun 1 (σ' := (53, [some (.ref 0), some (.int a1), some (.int a2), some (.long a3), none], [.int (1 : Int32)], M105)) rfl ?_
              exact pm_irI rfl rfl
            · show pm_Im _ _ _ _ _ _ (47, [some (.ref 0), some (.int a1), some (.int a2), some (.long a3), none], [.ref 46], M101)
              refine pm_irun 2 (σ' := (49, [some (.ref 0), some (.int a1), some (.int a2), some (.long a3), none], [.long a3, .int a2, .ref 46], M101)) rfl ?_
              refine pm_icV (as := [.ref 46, .int a2, .long a3]) (rest := []) rfl rfl rfl rfl (Nat.le_of_ble_eq_true rfl) rfl (fun r h => pm_Ev_mono (Nat.le_of_ble_eq_true rfl) (sSheet_store_46_ok a2 a3 M101 r h)) (fun M106 => ?_)
              show pm_Im _ _ _ _ _ _ (52, [some (.ref 0), some (.int a1), some (.int a2), some (.long a3), none], [], M106)
              refine pm_irun 1 (σ' := (53, [some (.ref 0), some (.int a1), some (.int a2), some (.long a3), none], [.int (1 : Int32)], M106)) rfl ?_
              exact pm_irI rfl rfl
          · refine pm_irun 1 (σ' := (40, [some (.ref 0), some (.int a1), some (.int a2), some (.long a3), none], [.int (-12 : Int32)], M101)) rfl ?_
            exact pm_irI rfl rfl
      · refine pm_irun 1 (σ' := (24, [some (.ref 0), some (.int a1), some (.int a2), some (.long a3), none], [.int (-11 : Int32)], M81)) rfl ?_
        exact pm_irI rfl rfl
  · refine pm_irun 1 (σ' := (9, [some (.ref 0), some (.int a1), some (.int a2), some (.long a3), none], [.int (-2 : Int32)], M1)) rfl ?_
    exact pm_irI rfl rfl
def sR_put (a1 : Int32) (a2 : Int32) (a3 : Int64) (M : pm_M) : Option (Int32 × pm_M) := pm_bd (sR_isSheet a1 M) fun v2 M1 => if ¬ v2 = 0 then (if pm_in a1 4 then (if ¬ (M1.1 78 a1.toNatClampNeg) = (-1 : Int32) then (if pm_in a1 4 then (pm_bd (sR_in (a2.toInt64) (0 : Int64) ((M1.1 79 a1.toNatClampNeg) - (1 : Int32)).toInt64 M1) fun v4 M3 => if ¬ v4 = 0 then (if pm_in a1 4 then (pm_jn (fun (q7 : Int64) (M6 : pm_M) => if pm_in (((40 : Int32) * a1) + a2) 160 then (pm_lt (pm_sL M6 80 (((40 : Int32) * a1) + a2).toNatClampNeg q7) fun M8 => some ((1 : Int32), M8)) else none) fun (j5 : Int64 → pm_M → Option (Int32 × pm_M)) => if ¬ (M3.1 78 a1.toNatClampNeg) = 0 then (if pm_in a1 4 then (if ¬ (M3.1 78 a1.toNatClampNeg) = (1 : Int32) then (j5 (a3.toInt32.toInt16.toInt32.toInt64) M3) else (j5 (a3.toInt32.toInt64) M3)) else none) else (j5 a3 M3)) else none) else (some ((-12 : Int32), M3))) else none) else (some ((-11 : Int32), M1))) else none) else (some ((-2 : Int32), M1))
abbrev I_R_put (sh : Option (Int32 × pm_M)) (σ : pm_St) : Prop := pm_Im none (pm_Ev 2) pm_T201 (some .int) pm_rI sh σ
set_option maxHeartbeats 4000000 in
set_option maxRecDepth 100000 in
theorem sR_put_ok (a1 : Int32) (a2 : Int32) (a3 : Int64) (M : pm_M) : ∀ r, sR_put a1 a2 a3 M = some r → pm_Ev 3 201 [.ref 49, .int a1, .int a2, .long a3] M (pm_rI r).1 (pm_rI r).2 := by
  refine pm_meth (al := [some (.ref 49), some (.int a1), some (.int a2), some (.long a3), none]) rfl rfl rfl rfl rfl ?_
  unfold sR_put
  show I_R_put _ (0, [some (.ref 49), some (.int a1), some (.int a2), some (.long a3), none], [], M)
  refine pm_irun 1 (σ' := (1, [some (.ref 49), some (.int a1), some (.int a2), some (.long a3), none], [.int a1], M)) rfl ?_
  refine pm_icI (as := [.int a1]) (rest := []) rfl rfl rfl rfl (Nat.le_of_ble_eq_true rfl) rfl (fun r h => pm_Ev_mono (Nat.le_of_ble_eq_true rfl) (sR_isSheet_ok a1 M r h)) (fun v2 M1 => ?_)
  show pm_Im _ _ _ _ _ _ (4, [some (.ref 49), some (.int a1), some (.int a2), some (.long a3), none], [.int v2], M1)
  refine pm_iite (σ1 := (10, [some (.ref 49), some (.int a1), some (.int a2), some (.long a3), none], [], M1)) (σ2 := (7, [some (.ref 49), some (.int a1), some (.int a2), some (.long a3), none], [], M1)) rfl (fun _ => ?_) (fun _ => ?_)
  · refine pm_irun 3 (σ' := (15, [some (.ref 49), some (.int a1), some (.int a2), some (.long a3), none], [.int a1, .ref 78], M1)) rfl ?_
    refine pm_igd (σ1 := (16, [some (.ref 49), some (.int a1), some (.int a2), some (.long a3), none], [.int (M1.1 78 a1.toNatClampNeg)], M1)) rfl (fun _ => ?_)
    refine pm_irun 1 (σ' := (17, [some (.ref 49), some (.int a1), some (.int a2), some (.long a3), none], [.int (-1 : Int32), .int (M1.1 78 a1.toNatClampNeg)], M1)) rfl ?_
    refine pm_iite (σ1 := (23, [some (.ref 49), some (.int a1), some (.int a2), some (.long a3), none], [], M1)) (σ2 := (20, [some (.ref 49), some (.int a1), some (.int a2), some (.long a3), none], [], M1)) rfl (fun _ => ?_) (fun _ => ?_)
    · refine pm_irun 6 (σ' := (31, [some (.ref 49), some (.int a1), some (.int a2), some (.long a3), none], [.int a1, .ref 79, .long (0 : Int64), .long a2.toInt64], M1)) rfl ?_
      refine pm_igd (σ1 := (32, [some (.ref 49), some (.int a1), some (.int a2), some (.long a3), none], [.int (M1.1 79 a1.toNatClampNeg), .long (0 : Int64), .long a2.toInt64], M1)) rfl (fun _ => ?_)
      refine pm_irun 3 (σ' := (35, [some (.ref 49), some (.int a1), some (.int a2), some (.long a3), none], [.long ((M1.1 79 a1.toNatClampNeg) - (1 : Int32)).toInt64, .long (0 : Int64), .long a2.toInt64], M1)) rfl ?_
      refine pm_icI (as := [.long a2.toInt64, .long (0 : Int64), .long ((M1.1 79 a1.toNatClampNeg) - (1 : Int32)).toInt64]) (rest := []) rfl rfl rfl rfl (Nat.le_of_ble_eq_true rfl) rfl (fun r h => pm_Ev_mono (Nat.le_of_ble_eq_true rfl) (sR_in_ok (a2.toInt64) (0 : Int64) ((M1.1 79 a1.toNatClampNeg) - (1 : Int32)).toInt64 M1 r h)) (fun v4 M3 => ?_)
      show pm_Im _ _ _ _ _ _ (38, [some (.ref 49), some (.int a1), some (.int a2), some (.long a3), none], [.int v4], M3)
      refine pm_iite (σ1 := (44, [some (.ref 49), some (.int a1), some (.int a2), some (.long a3), none], [], M3)) (σ2 := (41, [some (.ref 49), some (.int a1), some (.int a2), some (.long a3), none], [], M3)) rfl (fun _ => ?_) (fun _ => ?_)
      · refine pm_irun 8 (σ' := (55, [some (.ref 49), some (.int a1), some (.int a2), some (.long a3), none], [.ref 49, .int (((40 : Int32) * a1) + a2), .ref 80], M3)) rfl ?_
        refine pm_irun 2 (σ' := (59, [some (.ref 49), some (.int a1), some (.int a2), some (.long a3), none], [.int a1, .ref 78, .int (((40 : Int32) * a1) + a2), .ref 80], M3)) rfl ?_
        refine pm_igd (σ1 := (60, [some (.ref 49), some (.int a1), some (.int a2), some (.long a3), none], [.int (M3.1 78 a1.toNatClampNeg), .int (((40 : Int32) * a1) + a2), .ref 80], M3)) rfl (fun _ => ?_)
        refine pm_ijn (fun (g : Int64 → pm_M → Option (Int32 × pm_M)) => ∀ (q7 : Int64) (M6 : pm_M), I_R_put (g q7 M6) (87, [none, none, none, none, none], [.long q7, .int (((40 : Int32) * a1) + a2), .ref 80], M6)) (fun (q7 : Int64) (M6 : pm_M) => ?_) (fun j5 hj5 => ?_)
        · show I_R_put _ (87, [none, none, none, none, none], [.long q7, .int (((40 : Int32) * a1) + a2), .ref 80], M6)
          refine pm_igd (σ1 := (88, [none, none, none, none, none], [], (pm_sL M6 80 (((40 : Int32) * a1) + a2).toNatClampNeg q7))) rfl (fun _ => ?_)
          refine pm_ilt (fun y => (88, [none, none, none, none, none], [], y)) (fun M8 => ?_)
          refine pm_irun 1 (σ' := (89, [none, none, none, none, none], [.int (1 : Int32)], M8)) rfl ?_
          exact pm_irI rfl rfl
        refine pm_iite (σ1 := (67, [some (.ref 49), some (.int a1), some (.int a2), some (.long a3), none], [.int (((40 : Int32) * a1) + a2), .ref 80], M3)) (σ2 := (63, [some (.ref 49), some (.int a1), some (.int a2), some (.long a3), none], [.int (((40 : Int32) * a1) + a2), .ref 80], M3)) rfl (fun _ => ?_) (fun _ => ?_)
        · refine pm_irun 3 (σ' := (72, [some (.ref 49), some (.int a1), some (.int a2), some (.long a3), none], [.int a1, .ref 78, .int (((40 : Int32) * a1) + a2), .ref 80], M3)) rfl ?_
          refine pm_igd (σ1 := (73, [some (.ref 49), some (.int a1), some (.int a2), some (.long a3), none], [.int (M3.1 78 a1.toNatClampNeg), .int (((40 : Int32) * a1) + a2), .ref 80], M3)) rfl (fun _ => ?_)
          refine pm_irun 1 (σ' := (74, [some (.ref 49), some (.int a1), some (.int a2), some (.long a3), none], [.int (1 : Int32), .int (M3.1 78 a1.toNatClampNeg), .int (((40 : Int32) * a1) + a2), .ref 80], M3)) rfl ?_
          refine pm_iite (σ1 := (83, [some (.ref 49), some (.int a1), some (.int a2), some (.long a3), none], [.int (((40 : Int32) * a1) + a2), .ref 80], M3)) (σ2 := (77, [some (.ref 49), some (.int a1), some (.int a2), some (.long a3), none], [.int (((40 : Int32) * a1) + a2), .ref 80], M3)) rfl (fun _ => ?_) (fun _ => ?_)
          · refine pm_irun 4 (σ' := (87, [some (.ref 49), some (.int a1), some (.int a2), some (.long a3), none], [.long a3.toInt32.toInt16.toInt32.toInt64, .int (((40 : Int32) * a1) + a2), .ref 80], M3)) rfl ?_
            refine pm_iwk (al' := [none, none, none, none, none]) (pm_wkN (pm_wkN (pm_wkN (pm_wkN (pm_wkS pm_wk0))))) ?_
            exact hj5 _ _
          · refine pm_irun 4 (σ' := (87, [some (.ref 49), some (.int a1), some (.int a2), some (.long a3), none], [.long a3.toInt32.toInt64, .int (((40 : Int32) * a1) + a2), .ref 80], M3)) rfl ?_
            refine pm_iwk (al' := [none, none, none, none, none]) (pm_wkN (pm_wkN (pm_wkN (pm_wkN (pm_wkS pm_wk0))))) ?_
            exact hj5 _ _
        · refine pm_irun 2 (σ' := (87, [some (.ref 49), some (.int a1), some (.int a2), some (.long a3), none], [.long a3, .int (((40 : Int32) * a1) + a2), .ref 80], M3)) rfl ?_
          refine pm_iwk (al' := [none, none, none, none, none]) (pm_wkN (pm_wkN (pm_wkN (pm_wkN (pm_wkS pm_wk0))))) ?_
          exact hj5 _ _
      · refine pm_irun 1 (σ' := (43, [some (.ref 49), some (.int a1), some (.int a2), some (.long a3), none], [.int (-12 : Int32)], M3)) rfl ?_
        exact pm_irI rfl rfl
    · refine pm_irun 1 (σ' := (22, [some (.ref 49), some (.int a1), some (.int a2), some (.long a3), none], [.int (-11 : Int32)], M1)) rfl ?_
      exact pm_irI rfl rfl
  · refine pm_irun 1 (σ' := (9, [some (.ref 49), some (.int a1), some (.int a2), some (.long a3), none], [.int (-2 : Int32)], M1)) rfl ?_
    exact pm_irI rfl rfl
