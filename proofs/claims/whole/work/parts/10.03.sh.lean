def sR_isDone (a1 : Int32) (M : pm_M) : Option (Int32 × pm_M) := if pm_in ((4 : Int32) * a1) 96 then (pm_lt ((M.1 58 ((4 : Int32) * a1).toNatClampNeg)) fun x1 => if pm_in (((4 : Int32) * a1) + (1 : Int32)) 96 then (pm_lt ((M.1 58 (((4 : Int32) * a1) + (1 : Int32)).toNatClampNeg)) fun x2 => if pm_in a1 24 then (if ¬ (M.1 57 a1.toNatClampNeg) = (115 : Int32) then (if pm_in a1 24 then (if ¬ (M.1 57 a1.toNatClampNeg) = (114 : Int32) then (if pm_in a1 24 then (if ¬ (M.1 57 a1.toNatClampNeg) = (104 : Int32) then (pm_bd (sR_parts x1 x2 M) fun v4 M3 => if v4 < 0 then (some ((0 : Int32), M3)) else (some ((1 : Int32), M3))) else (pm_bd (sR_home x1 x2 M) fun v6 M5 => if v6 = (-2 : Int32) then (some ((0 : Int32), M5)) else (some ((1 : Int32), M5)))) else none) else (if pm_in (((4 : Int32) * a1) + (2 : Int32)) 96 then (if pm_in (((4 : Int32) * a1) + (3 : Int32)) 96 then (pm_bd (sR_route x1 x2 (M.1 58 (((4 : Int32) * a1) + (2 : Int32)).toNatClampNeg) (M.1 58 (((4 : Int32) * a1) + (3 : Int32)).toNatClampNeg) M) fun v8 M7 => if v8 < 0 then (some ((0 : Int32), M7)) else (some ((1 : Int32), M7))) else none) else none)) else none) else (if pm_in (((4 : Int32) * a1) + (2 : Int32)) 96 then (pm_bd (sR_station x1 x2 (M.1 58 (((4 : Int32) * a1) + (2 : Int32)).toNatClampNeg) M) fun v10 M9 => if v10 < 0 then (some ((0 : Int32), M9)) else (some ((1 : Int32), M9))) else none)) else none) else none) else none
abbrev I_R_isDone (sh : Option (Int32 × pm_M)) (σ : pm_St) : Prop := pm_Im none (pm_Ev 3) pm_T134 (some .boolean) pm_rI sh σ
set_option maxHeartbeats 4000000 in
set_option maxRecDepth 100000 in
theorem sR_isDone_ok (a1 : Int32) (M : pm_M) : ∀ r, sR_isDone a1 M = some r → pm_Ev 4 134 [.ref 49, .int a1] M (pm_rI r).1 (pm_rI r).2 := by
  refine pm_meth (al := [some (.ref 49), some (.int a1), none, none]) rfl rfl rfl rfl rfl ?_
  unfold sR_isDone
  show I_R_isDone _ (0, [some (.ref 49), some (.int a1), none, none], [], M)
  refine pm_irun 5 (σ' := (7, [some (.ref 49), some (.int a1), none, none], [.int ((4 : Int32) * a1), .ref 58], M)) rfl ?_
  refine pm_igd (σ1 := (8, [some (.ref 49), some (.int a1), none, none], [.int (M.1 58 ((4 : Int32) * a1).toNatClampNeg)], M)) rfl (fun _ => ?_)
  refine pm_irun 1 (σ' := (9, [some (.ref 49), some (.int a1), some (.int (M.1 58 ((4 : Int32) * a1).toNatClampNeg)), none], [], M)) rfl ?_
  refine pm_ilt (fun y => (9, [some (.ref 49), some (.int a1), some (.int y), none], [], M)) (fun x1 => ?_)
  refine pm_irun 7 (σ' := (18, [some (.ref 49), some (.int a1), some (.int x1), none], [.int (((4 : Int32) * a1) + (1 : Int32)), .ref 58], M)) rfl ?_
  refine pm_igd (σ1 := (19, [some (.ref 49), some (.int a1), some (.int x1), none], [.int (M.1 58 (((4 : Int32) * a1) + (1 : Int32)).toNatClampNeg)], M)) rfl (fun _ => ?_)
  refine pm_irun 1 (σ' := (20, [some (.ref 49), some (.int a1), some (.int x1), some (.int (M.1 58 (((4 : Int32) * a1) + (1 : Int32)).toNatClampNeg))], [], M)) rfl ?_
  refine pm_ilt (fun y => (20, [some (.ref 49), some (.int a1), some (.int x1), some (.int y)], [], M)) (fun x2 => ?_)
  refine pm_irun 3 (σ' := (25, [some (.ref 49), some (.int a1), some (.int x1), some (.int x2)], [.int a1, .ref 57], M)) rfl ?_
  refine pm_igd (σ1 := (26, [some (.ref 49), some (.int a1), some (.int x1), some (.int x2)], [.int (M.1 57 a1.toNatClampNeg)], M)) rfl (fun _ => ?_)
  refine pm_irun 1 (σ' := (28, [some (.ref 49), some (.int a1), some (.int x1), some (.int x2)], [.int (115 : Int32), .int (M.1 57 a1.toNatClampNeg)], M)) rfl ?_
  refine pm_iite (σ1 := (56, [some (.ref 49), some (.int a1), some (.int x1), some (.int x2)], [], M)) (σ2 := (31, [some (.ref 49), some (.int a1), some (.int x1), some (.int x2)], [], M)) rfl (fun _ => ?_) (fun _ => ?_)
  · refine pm_irun 3 (σ' := (61, [some (.ref 49), some (.int a1), some (.int x1), some (.int x2)], [.int a1, .ref 57], M)) rfl ?_
    refine pm_igd (σ1 := (62, [some (.ref 49), some (.int a1), some (.int x1), some (.int x2)], [.int (M.1 57 a1.toNatClampNeg)], M)) rfl (fun _ => ?_)
    refine pm_irun 1 (σ' := (64, [some (.ref 49), some (.int a1), some (.int x1), some (.int x2)], [.int (114 : Int32), .int (M.1 57 a1.toNatClampNeg)], M)) rfl ?_
    refine pm_iite (σ1 := (102, [some (.ref 49), some (.int a1), some (.int x1), some (.int x2)], [], M)) (σ2 := (67, [some (.ref 49), some (.int a1), some (.int x1), some (.int x2)], [], M)) rfl (fun _ => ?_) (fun _ => ?_)
    · refine pm_irun 3 (σ' := (107, [some (.ref 49), some (.int a1), some (.int x1), some (.int x2)], [.int a1, .ref 57], M)) rfl ?_
      refine pm_igd (σ1 := (108, [some (.ref 49), some (.int a1), some (.int x1), some (.int x2)], [.int (M.1 57 a1.toNatClampNeg)], M)) rfl (fun _ => ?_)
      refine pm_irun 1 (σ' := (110, [some (.ref 49), some (.int a1), some (.int x1), some (.int x2)], [.int (104 : Int32), .int (M.1 57 a1.toNatClampNeg)], M)) rfl ?_
      refine pm_iite (σ1 := (130, [some (.ref 49), some (.int a1), some (.int x1), some (.int x2)], [], M)) (σ2 := (113, [some (.ref 49), some (.int a1), some (.int x1), some (.int x2)], [], M)) rfl (fun _ => ?_) (fun _ => ?_)
      · refine pm_irun 3 (σ' := (133, [some (.ref 49), some (.int a1), some (.int x1), some (.int x2)], [.int x2, .int x1, .ref 49], M)) rfl ?_
        refine pm_icI (as := [.ref 49, .int x1, .int x2]) (rest := []) rfl rfl rfl rfl (Nat.le_of_ble_eq_true rfl) rfl (fun r h => pm_Ev_mono (Nat.le_of_ble_eq_true rfl) (sR_parts_ok x1 x2 M r h)) (fun v4 M3 => ?_)
        show pm_Im _ _ _ _ _ _ (136, [some (.ref 49), some (.int a1), some (.int x1), some (.int x2)], [.int v4], M3)
        refine pm_iite (σ1 := (143, [some (.ref 49), some (.int a1), some (.int x1), some (.int x2)], [], M3)) (σ2 := (139, [some (.ref 49), some (.int a1), some (.int x1), some (.int x2)], [], M3)) rfl (fun _ => ?_) (fun _ => ?_)
        · refine pm_irun 1 (σ' := (144, [some (.ref 49), some (.int a1), some (.int x1), some (.int x2)], [.int (0 : Int32)], M3)) rfl ?_
          exact pm_irZ (Or.inl rfl) rfl rfl
        · refine pm_irun 2 (σ' := (144, [some (.ref 49), some (.int a1), some (.int x1), some (.int x2)], [.int (1 : Int32)], M3)) rfl ?_
          exact pm_irZ (Or.inr rfl) rfl rfl
      · refine pm_irun 3 (σ' := (116, [some (.ref 49), some (.int a1), some (.int x1), some (.int x2)], [.int x2, .int x1, .ref 49], M)) rfl ?_
        refine pm_icI (as := [.ref 49, .int x1, .int x2]) (rest := []) rfl rfl rfl rfl (Nat.le_of_ble_eq_true rfl) rfl (fun r h => pm_Ev_mono (Nat.le_of_ble_eq_true rfl) (sR_home_ok x1 x2 M r h)) (fun v6 M5 => ?_)
        show pm_Im _ _ _ _ _ _ (119, [some (.ref 49), some (.int a1), some (.int x1), some (.int x2)], [.int v6], M5)
        refine pm_irun 1 (σ' := (121, [some (.ref 49), some (.int a1), some (.int x1), some (.int x2)], [.int (-2 : Int32), .int v6], M5)) rfl ?_
        refine pm_iite (σ1 := (128, [some (.ref 49), some (.int a1), some (.int x1), some (.int x2)], [], M5)) (σ2 := (124, [some (.ref 49), some (.int a1), some (.int x1), some (.int x2)], [], M5)) rfl (fun _ => ?_) (fun _ => ?_)
        · refine pm_irun 1 (σ' := (129, [some (.ref 49), some (.int a1), some (.int x1), some (.int x2)], [.int (0 : Int32)], M5)) rfl ?_
          exact pm_irZ (Or.inl rfl) rfl rfl
        · refine pm_irun 2 (σ' := (129, [some (.ref 49), some (.int a1), some (.int x1), some (.int x2)], [.int (1 : Int32)], M5)) rfl ?_
          exact pm_irZ (Or.inr rfl) rfl rfl
    · refine pm_irun 8 (σ' := (77, [some (.ref 49), some (.int a1), some (.int x1), some (.int x2)], [.int ((4 : Int32) * a1), .ref 58, .int x2, .int x1, .ref 49], M)) rfl ?_
      refine pm_irun 2 (σ' := (79, [some (.ref 49), some (.int a1), some (.int x1), some (.int x2)], [.int (((4 : Int32) * a1) + (2 : Int32)), .ref 58, .int x2, .int x1, .ref 49], M)) rfl ?_
      refine pm_igd (σ1 := (80, [some (.ref 49), some (.int a1), some (.int x1), some (.int x2)], [.int (M.1 58 (((4 : Int32) * a1) + (2 : Int32)).toNatClampNeg), .int x2, .int x1, .ref 49], M)) rfl (fun _ => ?_)
      refine pm_irun 7 (σ' := (89, [some (.ref 49), some (.int a1), some (.int x1), some (.int x2)], [.int (((4 : Int32) * a1) + (3 : Int32)), .ref 58, .int (M.1 58 (((4 : Int32) * a1) + (2 : Int32)).toNatClampNeg), .int x2, .int x1, .ref 49], M)) rfl ?_
      refine pm_igd (σ1 := (90, [some (.ref 49), some (.int a1), some (.int x1), some (.int x2)], [.int (M.1 58 (((4 : Int32) * a1) + (3 : Int32)).toNatClampNeg), .int (M.1 58 (((4 : Int32) * a1) + (2 : Int32)).toNatClampNeg), .int x2, .int x1, .ref 49], M)) rfl (fun _ => ?_)
      refine pm_icI (as := [.ref 49, .int x1, .int x2, .int (M.1 58 (((4 : Int32) * a1) + (2 : Int32)).toNatClampNeg), .int (M.1 58 (((4 : Int32) * a1) + (3 : Int32)).toNatClampNeg)]) (rest := []) rfl rfl rfl rfl (Nat.le_of_ble_eq_true rfl) rfl (fun r h => pm_Ev_mono (Nat.le_of_ble_eq_true rfl) (sR_route_ok x1 x2 (M.1 58 (((4 : Int32) * a1) + (2 : Int32)).toNatClampNeg) (M.1 58 (((4 : Int32) * a1) + (3 : Int32)).toNatClampNeg) M r h)) (fun v8 M7 => ?_)
      show pm_Im _ _ _ _ _ _ (93, [some (.ref 49), some (.int a1), some (.int x1), some (.int x2)], [.int v8], M7)
      refine pm_iite (σ1 := (100, [some (.ref 49), some (.int a1), some (.int x1), some (.int x2)], [], M7)) (σ2 := (96, [some (.ref 49), some (.int a1), some (.int x1), some (.int x2)], [], M7)) rfl (fun _ => ?_) (fun _ => ?_)
      · refine pm_irun 1 (σ' := (101, [some (.ref 49), some (.int a1), some (.int x1), some (.int x2)], [.int (0 : Int32)], M7)) rfl ?_
        exact pm_irZ (Or.inl rfl) rfl rfl
      · refine pm_irun 2 (σ' := (101, [some (.ref 49), some (.int a1), some (.int x1), some (.int x2)], [.int (1 : Int32)], M7)) rfl ?_
        exact pm_irZ (Or.inr rfl) rfl rfl
  · refine pm_irun 8 (σ' := (41, [some (.ref 49), some (.int a1), some (.int x1), some (.int x2)], [.int ((4 : Int32) * a1), .ref 58, .int x2, .int x1, .ref 49], M)) rfl ?_
    refine pm_irun 2 (σ' := (43, [some (.ref 49), some (.int a1), some (.int x1), some (.int x2)], [.int (((4 : Int32) * a1) + (2 : Int32)), .ref 58, .int x2, .int x1, .ref 49], M)) rfl ?_
    refine pm_igd (σ1 := (44, [some (.ref 49), some (.int a1), some (.int x1), some (.int x2)], [.int (M.1 58 (((4 : Int32) * a1) + (2 : Int32)).toNatClampNeg), .int x2, .int x1, .ref 49], M)) rfl (fun _ => ?_)
    refine pm_icI (as := [.ref 49, .int x1, .int x2, .int (M.1 58 (((4 : Int32) * a1) + (2 : Int32)).toNatClampNeg)]) (rest := []) rfl rfl rfl rfl (Nat.le_of_ble_eq_true rfl) rfl (fun r h => pm_Ev_mono (Nat.le_of_ble_eq_true rfl) (sR_station_ok x1 x2 (M.1 58 (((4 : Int32) * a1) + (2 : Int32)).toNatClampNeg) M r h)) (fun v10 M9 => ?_)
    show pm_Im _ _ _ _ _ _ (47, [some (.ref 49), some (.int a1), some (.int x1), some (.int x2)], [.int v10], M9)
    refine pm_iite (σ1 := (54, [some (.ref 49), some (.int a1), some (.int x1), some (.int x2)], [], M9)) (σ2 := (50, [some (.ref 49), some (.int a1), some (.int x1), some (.int x2)], [], M9)) rfl (fun _ => ?_) (fun _ => ?_)
    · refine pm_irun 1 (σ' := (55, [some (.ref 49), some (.int a1), some (.int x1), some (.int x2)], [.int (0 : Int32)], M9)) rfl ?_
      exact pm_irZ (Or.inl rfl) rfl rfl
    · refine pm_irun 2 (σ' := (55, [some (.ref 49), some (.int a1), some (.int x1), some (.int x2)], [.int (1 : Int32)], M9)) rfl ?_
      exact pm_irZ (Or.inr rfl) rfl rfl
def sR_text  (M : pm_M) : Option (Int32 × pm_M) := pm_lt (pm_sI M 49 10 (0 : Int32)) fun M1 => pm_lt (pm_sI M1 49 11 (0 : Int32)) fun M2 => pm_bd (sR_clause M2) fun v4 M3 => pm_loop (fun _ _ => none) (fun (g5 : Int32 → pm_M → Option (Int32 × pm_M)) x7 M6 => pm_jn (fun (M9 : pm_M) => pm_lt (pm_sI M9 49 9 (0 : Int32)) fun M10 => if ¬ x7 = 0 then (pm_loop (fun _ _ _ => none) (fun (g11 : Int32 → Int32 → pm_M → Option (Int32 × pm_M)) x13 x14 M12 => if (M12.1 49 11) ≤ x14 then (some (x13, M12)) else (pm_bd (sR_isDone x14 M12) fun v16 M15 => if v16 = 0 then (pm_lt ((x14 + (1 : Int32))) fun x17 => g11 x13 x17 M15) else (pm_lt ((x13 + (1 : Int32))) fun x18 => pm_lt ((x14 + (1 : Int32))) fun x19 => g11 x18 x19 M15))) 1000000 (0 : Int32) (0 : Int32) M10) else (some (((-100 : Int32) - (M10.1 49 10)), M10))) fun (j8 : pm_M → Option (Int32 × pm_M)) => if x7 = 0 then (j8 M6) else (if (M6.1 49 9) ≤ (M6.1 49 10) then (j8 M6) else (if pm_in (M6.1 49 10) 60 then (pm_jn (fun (q22 : Int32) (M21 : pm_M) => if q22 = 0 then (g5 q22 M21) else (pm_lt (pm_sI M21 49 10 (((M21.1 49 10) + (1 : Int32)))) fun M23 => pm_bd (sR_clause M23) fun v25 M24 => g5 v25 M24)) fun (j20 : Int32 → pm_M → Option (Int32 × pm_M)) => if ¬ (M6.1 56 (M6.1 49 10).toNatClampNeg) = (59 : Int32) then (j20 (0 : Int32) M6) else (j20 (1 : Int32) M6)) else none))) 1000000 v4 M3
abbrev I_R_text (sh : Option (Int32 × pm_M)) (σ : pm_St) : Prop := pm_Im none (pm_Ev 4) pm_T135 (some .int) pm_rI sh σ
set_option maxHeartbeats 4000000 in
set_option maxRecDepth 100000 in
theorem sR_text_ok  (M : pm_M) : ∀ r, sR_text  M = some r → pm_Ev 5 135 [.ref 49] M (pm_rI r).1 (pm_rI r).2 := by
  refine pm_meth (al := [some (.ref 49), none, none, none]) rfl rfl rfl rfl rfl ?_
  unfold sR_text
  show I_R_text _ (0, [some (.ref 49), none, none, none], [], M)
  refine pm_irun 2 (σ' := (2, [some (.ref 49), none, none, none], [.int (0 : Int32), .ref 49], M)) rfl ?_
  refine pm_irun 1 (σ' := (5, [some (.ref 49), none, none, none], [], (pm_sI M 49 10 (0 : Int32)))) rfl ?_
  refine pm_ilt (fun y => (5, [some (.ref 49), none, none, none], [], y)) (fun M1 => ?_)
  refine pm_irun 2 (σ' := (7, [some (.ref 49), none, none, none], [.int (0 : Int32), .ref 49], M1)) rfl ?_
  refine pm_irun 1 (σ' := (10, [some (.ref 49), none, none, none], [], (pm_sI M1 49 11 (0 : Int32)))) rfl ?_
  refine pm_ilt (fun y => (10, [some (.ref 49), none, none, none], [], y)) (fun M2 => ?_)
  refine pm_irun 1 (σ' := (11, [some (.ref 49), none, none, none], [.ref 49], M2)) rfl ?_
  refine pm_icI (as := [.ref 49]) (rest := []) rfl rfl rfl rfl (Nat.le_of_ble_eq_true rfl) rfl (fun r h => pm_Ev_mono (Nat.le_of_ble_eq_true rfl) (sR_clause_ok M2 r h)) (fun v4 M3 => ?_)
  show pm_Im _ _ _ _ _ _ (14, [some (.ref 49), none, none, none], [.int v4], M3)
  refine pm_irun 1 (σ' := (15, [some (.ref 49), some (.int v4), none, none], [], M3)) rfl ?_
  refine pm_iloop (fun (g : Int32 → pm_M → Option (Int32 × pm_M)) => ∀ (x7 : Int32) (M6 : pm_M), I_R_text (g x7 M6) (15, [some (.ref 49), some (.int x7), none, none], [], M6)) (fun _ _ => pm_inone) (fun g5 hg5 x7 M6 => ?_) 1000000 _ _
  show I_R_text _ (15, [some (.ref 49), some (.int x7), none, none], [], M6)
  refine pm_irun 1 (σ' := (16, [some (.ref 49), some (.int x7), none, none], [.int x7], M6)) rfl ?_
  refine pm_ijn (fun (g : pm_M → Option (Int32 × pm_M)) => ∀ (M9 : pm_M), I_R_text (g M9) (72, [some (.ref 49), some (.int x7), none, none], [], M9)) (fun (M9 : pm_M) => ?_) (fun j8 hj8 => ?_)
  · show I_R_text _ (72, [some (.ref 49), some (.int x7), none, none], [], M9)
    refine pm_irun 2 (σ' := (74, [some (.ref 49), some (.int x7), none, none], [.int (0 : Int32), .ref 49], M9)) rfl ?_
    refine pm_irun 1 (σ' := (77, [some (.ref 49), some (.int x7), none, none], [], (pm_sI M9 49 9 (0 : Int32)))) rfl ?_
    refine pm_ilt (fun y => (77, [some (.ref 49), some (.int x7), none, none], [], y)) (fun M10 => ?_)
    refine pm_irun 1 (σ' := (78, [some (.ref 49), some (.int x7), none, none], [.int x7], M10)) rfl ?_
    refine pm_iite (σ1 := (89, [some (.ref 49), some (.int x7), none, none], [], M10)) (σ2 := (81, [some (.ref 49), some (.int x7), none, none], [], M10)) rfl (fun _ => ?_) (fun _ => ?_)
    · refine pm_irun 2 (σ' := (91, [some (.ref 49), some (.int x7), some (.int (0 : Int32)), none], [], M10)) rfl ?_
      refine pm_irun 2 (σ' := (93, [some (.ref 49), some (.int x7), some (.int (0 : Int32)), some (.int (0 : Int32))], [], M10)) rfl ?_
      refine pm_iwk (al' := [some (.ref 49), none, some (.int (0 : Int32)), some (.int (0 : Int32))]) (pm_wkS (pm_wkN (pm_wkS (pm_wkS pm_wk0)))) ?_
      refine pm_iloop (fun (g : Int32 → Int32 → pm_M → Option (Int32 × pm_M)) => ∀ (x13 : Int32) (x14 : Int32) (M12 : pm_M), I_R_text (g x13 x14 M12) (93, [some (.ref 49), none, some (.int x13), some (.int x14)], [], M12)) (fun _ _ _ => pm_inone) (fun g11 hg11 x13 x14 M12 => ?_) 1000000 _ _ _
      show I_R_text _ (93, [some (.ref 49), none, some (.int x13), some (.int x14)], [], M12)
      refine pm_irun 3 (σ' := (98, [some (.ref 49), none, some (.int x13), some (.int x14)], [.int (M12.1 49 11), .int x14], M12)) rfl ?_
      refine pm_iite (σ1 := (118, [some (.ref 49), none, some (.int x13), some (.int x14)], [], M12)) (σ2 := (101, [some (.ref 49), none, some (.int x13), some (.int x14)], [], M12)) rfl (fun _ => ?_) (fun _ => ?_)
      · refine pm_irun 1 (σ' := (119, [some (.ref 49), none, some (.int x13), some (.int x14)], [.int x13], M12)) rfl ?_
        exact pm_irI rfl rfl
      · refine pm_irun 2 (σ' := (103, [some (.ref 49), none, some (.int x13), some (.int x14)], [.int x14, .ref 49], M12)) rfl ?_
        refine pm_icI (as := [.ref 49, .int x14]) (rest := []) rfl rfl rfl rfl (Nat.le_of_ble_eq_true rfl) rfl (fun r h => pm_Ev_mono (Nat.le_of_ble_eq_true rfl) (sR_isDone_ok x14 M12 r h)) (fun v16 M15 => ?_)
        show pm_Im _ _ _ _ _ _ (106, [some (.ref 49), none, some (.int x13), some (.int x14)], [.int v16], M15)
        refine pm_iite (σ1 := (112, [some (.ref 49), none, some (.int x13), some (.int x14)], [], M15)) (σ2 := (109, [some (.ref 49), none, some (.int x13), some (.int x14)], [], M15)) rfl (fun _ => ?_) (fun _ => ?_)
        · refine pm_irun 1 (σ' := (115, [some (.ref 49), none, some (.int x13), some (.int (x14 + (1 : Int32)))], [], M15)) rfl ?_
          refine pm_ilt (fun y => (115, [some (.ref 49), none, some (.int x13), some (.int y)], [], M15)) (fun x17 => ?_)
          refine pm_irun 1 (σ' := (93, [some (.ref 49), none, some (.int x13), some (.int x17)], [], M15)) rfl ?_
          exact hg11 _ _ _
        · refine pm_irun 1 (σ' := (112, [some (.ref 49), none, some (.int (x13 + (1 : Int32))), some (.int x14)], [], M15)) rfl ?_
          refine pm_ilt (fun y => (112, [some (.ref 49), none, some (.int y), some (.int x14)], [], M15)) (fun x18 => ?_)
          refine pm_irun 1 (σ' := (115, [some (.ref 49), none, some (.int x18), some (.int (x14 + (1 : Int32)))], [], M15)) rfl ?_
          refine pm_ilt (fun y => (115, [some (.ref 49), none, some (.int x18), some (.int y)], [], M15)) (fun x19 => ?_)
          refine pm_irun 1 (σ' := (93, [some (.ref 49), none, some (.int x18), some (.int x19)], [], M15)) rfl ?_
          exact hg11 _ _ _
    · refine pm_irun 4 (σ' := (88, [some (.ref 49), some (.int x7), none, none], [.int ((-100 : Int32) - (M10.1 49 10))], M10)) rfl ?_
      exact pm_irI rfl rfl
  refine pm_iite (σ1 := (72, [some (.ref 49), some (.int x7), none, none], [], M6)) (σ2 := (19, [some (.ref 49), some (.int x7), none, none], [], M6)) rfl (fun _ => ?_) (fun _ => ?_)
  · exact hj8 _
  · refine pm_irun 4 (σ' := (27, [some (.ref 49), some (.int x7), none, none], [.int (M6.1 49 9), .int (M6.1 49 10)], M6)) rfl ?_
    refine pm_iite (σ1 := (72, [some (.ref 49), some (.int x7), none, none], [], M6)) (σ2 := (30, [some (.ref 49), some (.int x7), none, none], [], M6)) rfl (fun _ => ?_) (fun _ => ?_)
    · exact hj8 _
    · refine pm_irun 4 (σ' := (38, [some (.ref 49), some (.int x7), none, none], [.int (M6.1 49 10), .ref 56], M6)) rfl ?_
      refine pm_igd (σ1 := (39, [some (.ref 49), some (.int x7), none, none], [.int (M6.1 56 (M6.1 49 10).toNatClampNeg)], M6)) rfl (fun _ => ?_)
      refine pm_irun 1 (σ' := (41, [some (.ref 49), some (.int x7), none, none], [.int (59 : Int32), .int (M6.1 56 (M6.1 49 10).toNatClampNeg)], M6)) rfl ?_
      refine pm_ijn (fun (g : Int32 → pm_M → Option (Int32 × pm_M)) => ∀ (q22 : Int32) (M21 : pm_M), I_R_text (g q22 M21) (49, [some (.ref 49), none, none, none], [.int q22], M21)) (fun (q22 : Int32) (M21 : pm_M) => ?_) (fun j20 hj20 => ?_)
      · show I_R_text _ (49, [some (.ref 49), none, none, none], [.int q22], M21)
        refine pm_irun 1 (σ' := (50, [some (.ref 49), some (.int q22), none, none], [], M21)) rfl ?_
        refine pm_irun 1 (σ' := (51, [some (.ref 49), some (.int q22), none, none], [.int q22], M21)) rfl ?_
        refine pm_iite (σ1 := (15, [some (.ref 49), some (.int q22), none, none], [], M21)) (σ2 := (54, [some (.ref 49), some (.int q22), none, none], [], M21)) rfl (fun _ => ?_) (fun _ => ?_)
        · exact hg5 _ _
        · refine pm_irun 5 (σ' := (61, [some (.ref 49), some (.int q22), none, none], [.int ((M21.1 49 10) + (1 : Int32)), .ref 49], M21)) rfl ?_
          refine pm_irun 1 (σ' := (64, [some (.ref 49), some (.int q22), none, none], [], (pm_sI M21 49 10 (((M21.1 49 10) + (1 : Int32)))))) rfl ?_
          refine pm_ilt (fun y => (64, [some (.ref 49), some (.int q22), none, none], [], y)) (fun M23 => ?_)
          refine pm_irun 1 (σ' := (65, [some (.ref 49), some (.int q22), none, none], [.ref 49], M23)) rfl ?_
          refine pm_icI (as := [.ref 49]) (rest := []) rfl rfl rfl rfl (Nat.le_of_ble_eq_true rfl) rfl (fun r h => pm_Ev_mono (Nat.le_of_ble_eq_true rfl) (sR_clause_ok M23 r h)) (fun v25 M24 => ?_)
          show pm_Im _ _ _ _ _ _ (68, [some (.ref 49), some (.int q22), none, none], [.int v25], M24)
          refine pm_irun 1 (σ' := (69, [some (.ref 49), some (.int v25), none, none], [], M24)) rfl ?_
          refine pm_irun 1 (σ' := (15, [some (.ref 49), some (.int v25), none, none], [], M24)) rfl ?_
          exact hg5 _ _
      refine pm_iite (σ1 := (48, [some (.ref 49), some (.int x7), none, none], [], M6)) (σ2 := (44, [some (.ref 49), some (.int x7), none, none], [], M6)) rfl (fun _ => ?_) (fun _ => ?_)
      · refine pm_irun 1 (σ' := (49, [some (.ref 49), some (.int x7), none, none], [.int (0 : Int32)], M6)) rfl ?_
        refine pm_iwk (al' := [some (.ref 49), none, none, none]) (pm_wkS (pm_wkN (pm_wkS (pm_wkS pm_wk0)))) ?_
        exact hj20 _ _
      · refine pm_irun 2 (σ' := (49, [some (.ref 49), some (.int x7), none, none], [.int (1 : Int32)], M6)) rfl ?_
        refine pm_iwk (al' := [some (.ref 49), none, none, none]) (pm_wkS (pm_wkN (pm_wkS (pm_wkS pm_wk0)))) ?_
        exact hj20 _ _
def sC_told (a1 : Int32) (a2 : Int32) (M : pm_M) : Option (Int32 × pm_M) := pm_bd (sNet_hasStation_1 a1 M) fun v2 M1 => if v2 = 0 then (some ((-2 : Int32), M1)) else (if a2 < 0 then (some ((-2 : Int32), M1)) else (if a2 ≤ (2 : Int32) then (if ¬ a2 = 0 then (if pm_in (((a2 - (1 : Int32)) * (5 : Int32)) + a1) 10 then (some ((M1.1 3 (((a2 - (1 : Int32)) * (5 : Int32)) + a1).toNatClampNeg), M1)) else none) else (if pm_in a1 5 then (some ((M1.1 2 a1.toNatClampNeg), M1)) else none)) else (some ((-2 : Int32), M1))))
abbrev I_C_told (sh : Option (Int32 × pm_M)) (σ : pm_St) : Prop := pm_Im none (pm_Ev 1) pm_T66 (some .int) pm_rI sh σ
set_option maxHeartbeats 4000000 in
set_option maxRecDepth 100000 in
theorem sC_told_ok (a1 : Int32) (a2 : Int32) (M : pm_M) : ∀ r, sC_told a1 a2 M = some r → pm_Ev 2 66 [.ref 0, .int a1, .int a2] M (pm_rI r).1 (pm_rI r).2 := by
  refine pm_meth (al := [some (.ref 0), some (.int a1), some (.int a2)]) rfl rfl rfl rfl rfl ?_
  unfold sC_told
  show I_C_told _ (0, [some (.ref 0), some (.int a1), some (.int a2)], [], M)
  refine pm_irun 3 (σ' := (5, [some (.ref 0), some (.int a1), some (.int a2)], [.int a1, .ref 1], M)) rfl ?_
  refine pm_icI (as := [.ref 1, .int a1]) (rest := []) rfl rfl rfl rfl (Nat.le_of_ble_eq_true rfl) rfl (fun r h => pm_Ev_mono (Nat.le_of_ble_eq_true rfl) (sNet_hasStation_1_ok a1 M r h)) (fun v2 M1 => ?_)
  show pm_Im _ _ _ _ _ _ (8, [some (.ref 0), some (.int a1), some (.int a2)], [.int v2], M1)
  refine pm_iite (σ1 := (20, [some (.ref 0), some (.int a1), some (.int a2)], [], M1)) (σ2 := (11, [some (.ref 0), some (.int a1), some (.int a2)], [], M1)) rfl (fun _ => ?_) (fun _ => ?_)
  · refine pm_irun 1 (σ' := (22, [some (.ref 0), some (.int a1), some (.int a2)], [.int (-2 : Int32)], M1)) rfl ?_
    exact pm_irI rfl rfl
  · refine pm_irun 1 (σ' := (12, [some (.ref 0), some (.int a1), some (.int a2)], [.int a2], M1)) rfl ?_
    refine pm_iite (σ1 := (20, [some (.ref 0), some (.int a1), some (.int a2)], [], M1)) (σ2 := (15, [some (.ref 0), some (.int a1), some (.int a2)], [], M1)) rfl (fun _ => ?_) (fun _ => ?_)
    · refine pm_irun 1 (σ' := (22, [some (.ref 0), some (.int a1), some (.int a2)], [.int (-2 : Int32)], M1)) rfl ?_
      exact pm_irI rfl rfl
    · refine pm_irun 2 (σ' := (17, [some (.ref 0), some (.int a1), some (.int a2)], [.int (2 : Int32), .int a2], M1)) rfl ?_
      refine pm_iite (σ1 := (23, [some (.ref 0), some (.int a1), some (.int a2)], [], M1)) (σ2 := (20, [some (.ref 0), some (.int a1), some (.int a2)], [], M1)) rfl (fun _ => ?_) (fun _ => ?_)
      · refine pm_irun 1 (σ' := (24, [some (.ref 0), some (.int a1), some (.int a2)], [.int a2], M1)) rfl ?_
        refine pm_iite (σ1 := (37, [some (.ref 0), some (.int a1), some (.int a2)], [], M1)) (σ2 := (27, [some (.ref 0), some (.int a1), some (.int a2)], [], M1)) rfl (fun _ => ?_) (fun _ => ?_)
        · refine pm_irun 8 (σ' := (49, [some (.ref 0), some (.int a1), some (.int a2)], [.int ((a2 - (1 : Int32)) * (5 : Int32)), .ref 3], M1)) rfl ?_
          refine pm_irun 2 (σ' := (51, [some (.ref 0), some (.int a1), some (.int a2)], [.int (((a2 - (1 : Int32)) * (5 : Int32)) + a1), .ref 3], M1)) rfl ?_
          refine pm_igd (σ1 := (52, [some (.ref 0), some (.int a1), some (.int a2)], [.int (M1.1 3 (((a2 - (1 : Int32)) * (5 : Int32)) + a1).toNatClampNeg)], M1)) rfl (fun _ => ?_)
          exact pm_irI rfl rfl
        · refine pm_irun 4 (σ' := (35, [some (.ref 0), some (.int a1), some (.int a2)], [.int a1, .ref 2], M1)) rfl ?_
          refine pm_igd (σ1 := (36, [some (.ref 0), some (.int a1), some (.int a2)], [.int (M1.1 2 a1.toNatClampNeg)], M1)) rfl (fun _ => ?_)
          exact pm_irI rfl rfl
      · refine pm_irun 1 (σ' := (22, [some (.ref 0), some (.int a1), some (.int a2)], [.int (-2 : Int32)], M1)) rfl ?_
        exact pm_irI rfl rfl
def sR_told (a1 : Int32) (a2 : Int32) (M : pm_M) : Option (Int32 × pm_M) := pm_bd (sR_isStation a1 M) fun v2 M1 => if v2 = 0 then (some ((-2 : Int32), M1)) else (pm_bd (sR_in (a2.toInt64) (0 : Int64) (2 : Int64) M1) fun v4 M3 => if ¬ v4 = 0 then (if ¬ a2 = 0 then (if pm_in (((5 : Int32) * (a2 - (1 : Int32))) + a1) 10 then (some ((M3.1 51 (((5 : Int32) * (a2 - (1 : Int32))) + a1).toNatClampNeg), M3)) else none) else (if pm_in a1 5 then (some ((M3.1 50 a1.toNatClampNeg), M3)) else none)) else (some ((-2 : Int32), M3)))
abbrev I_R_told (sh : Option (Int32 × pm_M)) (σ : pm_St) : Prop := pm_Im none (pm_Ev 2) pm_T136 (some .int) pm_rI sh σ
set_option maxHeartbeats 4000000 in
set_option maxRecDepth 100000 in
theorem sR_told_ok (a1 : Int32) (a2 : Int32) (M : pm_M) : ∀ r, sR_told a1 a2 M = some r → pm_Ev 3 136 [.ref 49, .int a1, .int a2] M (pm_rI r).1 (pm_rI r).2 := by
  refine pm_meth (al := [some (.ref 49), some (.int a1), some (.int a2)]) rfl rfl rfl rfl rfl ?_
  unfold sR_told
  show I_R_told _ (0, [some (.ref 49), some (.int a1), some (.int a2)], [], M)
  refine pm_irun 2 (σ' := (2, [some (.ref 49), some (.int a1), some (.int a2)], [.int a1, .ref 49], M)) rfl ?_
  refine pm_icI (as := [.ref 49, .int a1]) (rest := []) rfl rfl rfl rfl (Nat.le_of_ble_eq_true rfl) rfl (fun r h => pm_Ev_mono (Nat.le_of_ble_eq_true rfl) (sR_isStation_ok a1 M r h)) (fun v2 M1 => ?_)
  show pm_Im _ _ _ _ _ _ (5, [some (.ref 49), some (.int a1), some (.int a2)], [.int v2], M1)
  refine pm_iite (σ1 := (20, [some (.ref 49), some (.int a1), some (.int a2)], [], M1)) (σ2 := (8, [some (.ref 49), some (.int a1), some (.int a2)], [], M1)) rfl (fun _ => ?_) (fun _ => ?_)
  · refine pm_irun 1 (σ' := (22, [some (.ref 49), some (.int a1), some (.int a2)], [.int (-2 : Int32)], M1)) rfl ?_
    exact pm_irI rfl rfl
  · refine pm_irun 4 (σ' := (14, [some (.ref 49), some (.int a1), some (.int a2)], [.long (2 : Int64), .long (0 : Int64), .long a2.toInt64], M1)) rfl ?_
    refine pm_icI (as := [.long a2.toInt64, .long (0 : Int64), .long (2 : Int64)]) (rest := []) rfl rfl rfl rfl (Nat.le_of_ble_eq_true rfl) rfl (fun r h => pm_Ev_mono (Nat.le_of_ble_eq_true rfl) (sR_in_ok (a2.toInt64) (0 : Int64) (2 : Int64) M1 r h)) (fun v4 M3 => ?_)
    show pm_Im _ _ _ _ _ _ (17, [some (.ref 49), some (.int a1), some (.int a2)], [.int v4], M3)
    refine pm_iite (σ1 := (23, [some (.ref 49), some (.int a1), some (.int a2)], [], M3)) (σ2 := (20, [some (.ref 49), some (.int a1), some (.int a2)], [], M3)) rfl (fun _ => ?_) (fun _ => ?_)
    · refine pm_irun 1 (σ' := (24, [some (.ref 49), some (.int a1), some (.int a2)], [.int a2], M3)) rfl ?_
      refine pm_iite (σ1 := (36, [some (.ref 49), some (.int a1), some (.int a2)], [], M3)) (σ2 := (27, [some (.ref 49), some (.int a1), some (.int a2)], [], M3)) rfl (fun _ => ?_) (fun _ => ?_)
      · refine pm_irun 8 (σ' := (46, [some (.ref 49), some (.int a1), some (.int a2)], [.int a1, .int ((5 : Int32) * (a2 - (1 : Int32))), .ref 51], M3)) rfl ?_
        refine pm_irun 1 (σ' := (47, [some (.ref 49), some (.int a1), some (.int a2)], [.int (((5 : Int32) * (a2 - (1 : Int32))) + a1), .ref 51], M3)) rfl ?_
        refine pm_igd (σ1 := (48, [some (.ref 49), some (.int a1), some (.int a2)], [.int (M3.1 51 (((5 : Int32) * (a2 - (1 : Int32))) + a1).toNatClampNeg)], M3)) rfl (fun _ => ?_)
        exact pm_irI rfl rfl
      · refine pm_irun 3 (σ' := (32, [some (.ref 49), some (.int a1), some (.int a2)], [.int a1, .ref 50], M3)) rfl ?_
        refine pm_igd (σ1 := (33, [some (.ref 49), some (.int a1), some (.int a2)], [.int (M3.1 50 a1.toNatClampNeg)], M3)) rfl (fun _ => ?_)
        refine pm_irun 1 (σ' := (48, [some (.ref 49), some (.int a1), some (.int a2)], [.int (M3.1 50 a1.toNatClampNeg)], M3)) rfl ?_
        exact pm_irI rfl rfl
    · refine pm_irun 1 (σ' := (22, [some (.ref 49), some (.int a1), some (.int a2)], [.int (-2 : Int32)], M3)) rfl ?_
      exact pm_irI rfl rfl
def sC_groupOf (a1 : Int32) (M : pm_M) : Option (Int32 × pm_M) := if a1 = 0 then (some ((0 : Int32), M)) else (if ¬ a1 = (1 : Int32) then (if ¬ a1 = (2 : Int32) then (some ((2 : Int32), M)) else (some ((1 : Int32), M))) else (some ((0 : Int32), M)))
abbrev I_C_groupOf (sh : Option (Int32 × pm_M)) (σ : pm_St) : Prop := pm_Im none (pm_Ev 0) pm_T102 (some .int) pm_rI sh σ
set_option maxHeartbeats 4000000 in
set_option maxRecDepth 100000 in
theorem sC_groupOf_ok (a1 : Int32) (M : pm_M) : ∀ r, sC_groupOf a1 M = some r → pm_Ev 1 102 [.int a1] M (pm_rI r).1 (pm_rI r).2 := by
  refine pm_meth (al := [some (.int a1)]) rfl rfl rfl rfl rfl ?_
  unfold sC_groupOf
  show I_C_groupOf _ (0, [some (.int a1)], [], M)
  refine pm_irun 1 (σ' := (1, [some (.int a1)], [.int a1], M)) rfl ?_
  refine pm_iite (σ1 := (9, [some (.int a1)], [], M)) (σ2 := (4, [some (.int a1)], [], M)) rfl (fun _ => ?_) (fun _ => ?_)
  · refine pm_irun 1 (σ' := (10, [some (.int a1)], [.int (0 : Int32)], M)) rfl ?_
    exact pm_irI rfl rfl
  · refine pm_irun 2 (σ' := (6, [some (.int a1)], [.int (1 : Int32), .int a1], M)) rfl ?_
    refine pm_iite (σ1 := (11, [some (.int a1)], [], M)) (σ2 := (9, [some (.int a1)], [], M)) rfl (fun _ => ?_) (fun _ => ?_)
    · refine pm_irun 2 (σ' := (13, [some (.int a1)], [.int (2 : Int32), .int a1], M)) rfl ?_
      refine pm_iite (σ1 := (20, [some (.int a1)], [], M)) (σ2 := (16, [some (.int a1)], [], M)) rfl (fun _ => ?_) (fun _ => ?_)
      · refine pm_irun 1 (σ' := (21, [some (.int a1)], [.int (2 : Int32)], M)) rfl ?_
        exact pm_irI rfl rfl
      · refine pm_irun 2 (σ' := (21, [some (.int a1)], [.int (1 : Int32)], M)) rfl ?_
        exact pm_irI rfl rfl
    · refine pm_irun 1 (σ' := (10, [some (.int a1)], [.int (0 : Int32)], M)) rfl ?_
      exact pm_irI rfl rfl
def sC_taken (a1 : Int32) (a2 : Int32) (M : pm_M) : Option (Int32 × pm_M) := pm_bd (sNet_hasStation_1 a1 M) fun v2 M1 => if v2 = 0 then (some ((-2 : Int32), M1)) else (if a2 < 0 then (some ((-2 : Int32), M1)) else (if a2 ≤ (2 : Int32) then (if pm_in a1 5 then (pm_bd (sC_groupOf (M1.1 2 a1.toNatClampNeg) M1) fun v4 M3 => if v4 = a2 then (if pm_in a1 5 then (some ((M3.1 32 a1.toNatClampNeg), M3)) else none) else (some ((-13 : Int32), M3))) else none) else (some ((-2 : Int32), M1))))
abbrev I_C_taken (sh : Option (Int32 × pm_M)) (σ : pm_St) : Prop := pm_Im none (pm_Ev 1) pm_T67 (some .int) pm_rI sh σ
set_option maxHeartbeats 4000000 in
set_option maxRecDepth 100000 in
theorem sC_taken_ok (a1 : Int32) (a2 : Int32) (M : pm_M) : ∀ r, sC_taken a1 a2 M = some r → pm_Ev 2 67 [.ref 0, .int a1, .int a2] M (pm_rI r).1 (pm_rI r).2 := by
  refine pm_meth (al := [some (.ref 0), some (.int a1), some (.int a2)]) rfl rfl rfl rfl rfl ?_
  unfold sC_taken
  show I_C_taken _ (0, [some (.ref 0), some (.int a1), some (.int a2)], [], M)
  refine pm_irun 3 (σ' := (5, [some (.ref 0), some (.int a1), some (.int a2)], [.int a1, .ref 1], M)) rfl ?_
  refine pm_icI (as := [.ref 1, .int a1]) (rest := []) rfl rfl rfl rfl (Nat.le_of_ble_eq_true rfl) rfl (fun r h => pm_Ev_mono (Nat.le_of_ble_eq_true rfl) (sNet_hasStation_1_ok a1 M r h)) (fun v2 M1 => ?_)
  show pm_Im _ _ _ _ _ _ (8, [some (.ref 0), some (.int a1), some (.int a2)], [.int v2], M1)
  refine pm_iite (σ1 := (20, [some (.ref 0), some (.int a1), some (.int a2)], [], M1)) (σ2 := (11, [some (.ref 0), some (.int a1), some (.int a2)], [], M1)) rfl (fun _ => ?_) (fun _ => ?_)
  · refine pm_irun 1 (σ' := (22, [some (.ref 0), some (.int a1), some (.int a2)], [.int (-2 : Int32)], M1)) rfl ?_
    exact pm_irI rfl rfl
  · refine pm_irun 1 (σ' := (12, [some (.ref 0), some (.int a1), some (.int a2)], [.int a2], M1)) rfl ?_
    refine pm_iite (σ1 := (20, [some (.ref 0), some (.int a1), some (.int a2)], [], M1)) (σ2 := (15, [some (.ref 0), some (.int a1), some (.int a2)], [], M1)) rfl (fun _ => ?_) (fun _ => ?_)
    · refine pm_irun 1 (σ' := (22, [some (.ref 0), some (.int a1), some (.int a2)], [.int (-2 : Int32)], M1)) rfl ?_
      exact pm_irI rfl rfl
    · refine pm_irun 2 (σ' := (17, [some (.ref 0), some (.int a1), some (.int a2)], [.int (2 : Int32), .int a2], M1)) rfl ?_
      refine pm_iite (σ1 := (23, [some (.ref 0), some (.int a1), some (.int a2)], [], M1)) (σ2 := (20, [some (.ref 0), some (.int a1), some (.int a2)], [], M1)) rfl (fun _ => ?_) (fun _ => ?_)
      · refine pm_irun 4 (σ' := (31, [some (.ref 0), some (.int a1), some (.int a2)], [.int a1, .ref 2], M1)) rfl ?_
        refine pm_igd (σ1 := (32, [some (.ref 0), some (.int a1), some (.int a2)], [.int (M1.1 2 a1.toNatClampNeg)], M1)) rfl (fun _ => ?_)
        refine pm_icI (as := [.int (M1.1 2 a1.toNatClampNeg)]) (rest := []) rfl rfl rfl rfl (Nat.le_of_ble_eq_true rfl) rfl (fun r h => pm_Ev_mono (Nat.le_of_ble_eq_true rfl) (sC_groupOf_ok (M1.1 2 a1.toNatClampNeg) M1 r h)) (fun v4 M3 => ?_)
        show pm_Im _ _ _ _ _ _ (35, [some (.ref 0), some (.int a1), some (.int a2)], [.int v4], M3)
        refine pm_irun 1 (σ' := (36, [some (.ref 0), some (.int a1), some (.int a2)], [.int a2, .int v4], M3)) rfl ?_
        refine pm_iite (σ1 := (42, [some (.ref 0), some (.int a1), some (.int a2)], [], M3)) (σ2 := (39, [some (.ref 0), some (.int a1), some (.int a2)], [], M3)) rfl (fun _ => ?_) (fun _ => ?_)
        · refine pm_irun 4 (σ' := (50, [some (.ref 0), some (.int a1), some (.int a2)], [.int a1, .ref 32], M3)) rfl ?_
          refine pm_igd (σ1 := (51, [some (.ref 0), some (.int a1), some (.int a2)], [.int (M3.1 32 a1.toNatClampNeg)], M3)) rfl (fun _ => ?_)
          exact pm_irI rfl rfl
        · refine pm_irun 1 (σ' := (41, [some (.ref 0), some (.int a1), some (.int a2)], [.int (-13 : Int32)], M3)) rfl ?_
          exact pm_irI rfl rfl
      · refine pm_irun 1 (σ' := (22, [some (.ref 0), some (.int a1), some (.int a2)], [.int (-2 : Int32)], M1)) rfl ?_
        exact pm_irI rfl rfl
def sR_taken (a1 : Int32) (a2 : Int32) (M : pm_M) : Option (Int32 × pm_M) := pm_bd (sR_isStation a1 M) fun v2 M1 => if v2 = 0 then (some ((-2 : Int32), M1)) else (pm_bd (sR_in (a2.toInt64) (0 : Int64) (2 : Int64) M1) fun v4 M3 => if ¬ v4 = 0 then (if pm_in a1 5 then (pm_jn (fun (q7 : Int32) (M6 : pm_M) => if ¬ q7 = a2 then (some ((-13 : Int32), M6)) else (if pm_in a1 5 then (some ((M6.1 66 a1.toNatClampNeg), M6)) else none)) fun (j5 : Int32 → pm_M → Option (Int32 × pm_M)) => if ¬ (M3.1 50 a1.toNatClampNeg) = (2 : Int32) then (if pm_in a1 5 then (if ¬ (M3.1 50 a1.toNatClampNeg) = (3 : Int32) then (j5 (0 : Int32) M3) else (j5 (2 : Int32) M3)) else none) else (j5 (1 : Int32) M3)) else none) else (some ((-2 : Int32), M3)))
abbrev I_R_taken (sh : Option (Int32 × pm_M)) (σ : pm_St) : Prop := pm_Im none (pm_Ev 2) pm_T137 (some .int) pm_rI sh σ
set_option maxHeartbeats 4000000 in
set_option maxRecDepth 100000 in
theorem sR_taken_ok (a1 : Int32) (a2 : Int32) (M : pm_M) : ∀ r, sR_taken a1 a2 M = some r → pm_Ev 3 137 [.ref 49, .int a1, .int a2] M (pm_rI r).1 (pm_rI r).2 := by
  refine pm_meth (al := [some (.ref 49), some (.int a1), some (.int a2), none]) rfl rfl rfl rfl rfl ?_
  unfold sR_taken
  show I_R_taken _ (0, [some (.ref 49), some (.int a1), some (.int a2), none], [], M)
  refine pm_irun 2 (σ' := (2, [some (.ref 49), some (.int a1), some (.int a2), none], [.int a1, .ref 49], M)) rfl ?_
  refine pm_icI (as := [.ref 49, .int a1]) (rest := []) rfl rfl rfl rfl (Nat.le_of_ble_eq_true rfl) rfl (fun r h => pm_Ev_mono (Nat.le_of_ble_eq_true rfl) (sR_isStation_ok a1 M r h)) (fun v2 M1 => ?_)
  show pm_Im _ _ _ _ _ _ (5, [some (.ref 49), some (.int a1), some (.int a2), none], [.int v2], M1)
  refine pm_iite (σ1 := (20, [some (.ref 49), some (.int a1), some (.int a2), none], [], M1)) (σ2 := (8, [some (.ref 49), some (.int a1), some (.int a2), none], [], M1)) rfl (fun _ => ?_) (fun _ => ?_)
  · refine pm_irun 1 (σ' := (22, [some (.ref 49), some (.int a1), some (.int a2), none], [.int (-2 : Int32)], M1)) rfl ?_
    exact pm_irI rfl rfl
  · refine pm_irun 4 (σ' := (14, [some (.ref 49), some (.int a1), some (.int a2), none], [.long (2 : Int64), .long (0 : Int64), .long a2.toInt64], M1)) rfl ?_
    refine pm_icI (as := [.long a2.toInt64, .long (0 : Int64), .long (2 : Int64)]) (rest := []) rfl rfl rfl rfl (Nat.le_of_ble_eq_true rfl) rfl (fun r h => pm_Ev_mono (Nat.le_of_ble_eq_true rfl) (sR_in_ok (a2.toInt64) (0 : Int64) (2 : Int64) M1 r h)) (fun v4 M3 => ?_)
    show pm_Im _ _ _ _ _ _ (17, [some (.ref 49), some (.int a1), some (.int a2), none], [.int v4], M3)
    refine pm_iite (σ1 := (23, [some (.ref 49), some (.int a1), some (.int a2), none], [], M3)) (σ2 := (20, [some (.ref 49), some (.int a1), some (.int a2), none], [], M3)) rfl (fun _ => ?_) (fun _ => ?_)
    · refine pm_irun 3 (σ' := (28, [some (.ref 49), some (.int a1), some (.int a2), none], [.int a1, .ref 50], M3)) rfl ?_
      refine pm_igd (σ1 := (29, [some (.ref 49), some (.int a1), some (.int a2), none], [.int (M3.1 50 a1.toNatClampNeg)], M3)) rfl (fun _ => ?_)
      refine pm_irun 1 (σ' := (30, [some (.ref 49), some (.int a1), some (.int a2), none], [.int (2 : Int32), .int (M3.1 50 a1.toNatClampNeg)], M3)) rfl ?_
      refine pm_ijn (fun (g : Int32 → pm_M → Option (Int32 × pm_M)) => ∀ (q7 : Int32) (M6 : pm_M), I_R_taken (g q7 M6) (52, [some (.ref 49), some (.int a1), some (.int a2), none], [.int q7], M6)) (fun (q7 : Int32) (M6 : pm_M) => ?_) (fun j5 hj5 => ?_)
      · show I_R_taken _ (52, [some (.ref 49), some (.int a1), some (.int a2), none], [.int q7], M6)
        refine pm_irun 1 (σ' := (53, [some (.ref 49), some (.int a1), some (.int a2), some (.int q7)], [], M6)) rfl ?_
        refine pm_irun 2 (σ' := (55, [some (.ref 49), some (.int a1), some (.int a2), some (.int q7)], [.int a2, .int q7], M6)) rfl ?_
        refine pm_iite (σ1 := (67, [some (.ref 49), some (.int a1), some (.int a2), some (.int q7)], [], M6)) (σ2 := (58, [some (.ref 49), some (.int a1), some (.int a2), some (.int q7)], [], M6)) rfl (fun _ => ?_) (fun _ => ?_)
        · refine pm_irun 1 (σ' := (69, [some (.ref 49), some (.int a1), some (.int a2), some (.int q7)], [.int (-13 : Int32)], M6)) rfl ?_
          exact pm_irI rfl rfl
        · refine pm_irun 3 (σ' := (63, [some (.ref 49), some (.int a1), some (.int a2), some (.int q7)], [.int a1, .ref 66], M6)) rfl ?_
          refine pm_igd (σ1 := (64, [some (.ref 49), some (.int a1), some (.int a2), some (.int q7)], [.int (M6.1 66 a1.toNatClampNeg)], M6)) rfl (fun _ => ?_)
          refine pm_irun 1 (σ' := (69, [some (.ref 49), some (.int a1), some (.int a2), some (.int q7)], [.int (M6.1 66 a1.toNatClampNeg)], M6)) rfl ?_
          exact pm_irI rfl rfl
      refine pm_iite (σ1 := (37, [some (.ref 49), some (.int a1), some (.int a2), none], [], M3)) (σ2 := (33, [some (.ref 49), some (.int a1), some (.int a2), none], [], M3)) rfl (fun _ => ?_) (fun _ => ?_)
      · refine pm_irun 3 (σ' := (42, [some (.ref 49), some (.int a1), some (.int a2), none], [.int a1, .ref 50], M3)) rfl ?_
        refine pm_igd (σ1 := (43, [some (.ref 49), some (.int a1), some (.int a2), none], [.int (M3.1 50 a1.toNatClampNeg)], M3)) rfl (fun _ => ?_)
        refine pm_irun 1 (σ' := (44, [some (.ref 49), some (.int a1), some (.int a2), none], [.int (3 : Int32), .int (M3.1 50 a1.toNatClampNeg)], M3)) rfl ?_
        refine pm_iite (σ1 := (51, [some (.ref 49), some (.int a1), some (.int a2), none], [], M3)) (σ2 := (47, [some (.ref 49), some (.int a1), some (.int a2), none], [], M3)) rfl (fun _ => ?_) (fun _ => ?_)
        · refine pm_irun 1 (σ' := (52, [some (.ref 49), some (.int a1), some (.int a2), none], [.int (0 : Int32)], M3)) rfl ?_
          exact hj5 _ _
        · refine pm_irun 2 (σ' := (52, [some (.ref 49), some (.int a1), some (.int a2), none], [.int (2 : Int32)], M3)) rfl ?_
          exact hj5 _ _
      · refine pm_irun 2 (σ' := (52, [some (.ref 49), some (.int a1), some (.int a2), none], [.int (1 : Int32)], M3)) rfl ?_
        exact hj5 _ _
    · refine pm_irun 1 (σ' := (22, [some (.ref 49), some (.int a1), some (.int a2), none], [.int (-2 : Int32)], M3)) rfl ?_
      exact pm_irI rfl rfl
def sC_of (a1 : Int32) (a2 : Int32) (M : pm_M) : Option (Int32 × pm_M) := pm_bd (sC_isClass a1 M) fun v2 M1 => if ¬ v2 = 0 then (if a2 = Int32.ofNat 0 then (if pm_in a1 2 then (some ((M1.1 4 a1.toNatClampNeg), M1)) else none) else if a2 = Int32.ofNat 1 then (if pm_in a1 2 then (some ((M1.1 5 a1.toNatClampNeg), M1)) else none) else if a2 = Int32.ofNat 2 then (if pm_in a1 2 then (if (M1.1 18 a1.toNatClampNeg) = 0 then (some ((0 : Int32), M1)) else (some ((1 : Int32), M1))) else none) else if a2 = Int32.ofNat 3 then (if pm_in a1 2 then (some ((M1.1 17 a1.toNatClampNeg), M1)) else none) else (some ((-2 : Int32), M1))) else (some ((-2 : Int32), M1))
abbrev I_C_of (sh : Option (Int32 × pm_M)) (σ : pm_St) : Prop := pm_Im none (pm_Ev 1) pm_T68 (some .int) pm_rI sh σ
set_option maxHeartbeats 4000000 in
set_option maxRecDepth 100000 in
theorem sC_of_ok (a1 : Int32) (a2 : Int32) (M : pm_M) : ∀ r, sC_of a1 a2 M = some r → pm_Ev 2 68 [.ref 0, .int a1, .int a2] M (pm_rI r).1 (pm_rI r).2 := by
  refine pm_meth (al := [some (.ref 0), some (.int a1), some (.int a2)]) rfl rfl rfl rfl rfl ?_
  unfold sC_of
  show I_C_of _ (0, [some (.ref 0), some (.int a1), some (.int a2)], [], M)
  refine pm_irun 1 (σ' := (1, [some (.ref 0), some (.int a1), some (.int a2)], [.int a1], M)) rfl ?_
  refine pm_icI (as := [.int a1]) (rest := []) rfl rfl rfl rfl (Nat.le_of_ble_eq_true rfl) rfl (fun r h => pm_Ev_mono (Nat.le_of_ble_eq_true rfl) (sC_isClass_ok a1 M r h)) (fun v2 M1 => ?_)
  show pm_Im _ _ _ _ _ _ (4, [some (.ref 0), some (.int a1), some (.int a2)], [.int v2], M1)
  refine pm_iite (σ1 := (10, [some (.ref 0), some (.int a1), some (.int a2)], [], M1)) (σ2 := (7, [some (.ref 0), some (.int a1), some (.int a2)], [], M1)) rfl (fun _ => ?_) (fun _ => ?_)
  · refine pm_irun 1 (σ' := (11, [some (.ref 0), some (.int a1), some (.int a2)], [.int a2], M1)) rfl ?_
    refine pm_irun 1 (σ' := (pm_sw a2 88 [0, 40, 1, 50, 2, 60, 3, 78], [some (.ref 0), some (.int a1), some (.int a2)], [], M1)) rfl ?_
    refine pm_isw (fun _ => ?_) (fun _ => ?_)
    · show pm_Im _ _ _ _ _ _ (40, [some (.ref 0), some (.int a1), some (.int a2)], [], M1)
      refine pm_irun 4 (σ' := (48, [some (.ref 0), some (.int a1), some (.int a2)], [.int a1, .ref 4], M1)) rfl ?_
      refine pm_igd (σ1 := (49, [some (.ref 0), some (.int a1), some (.int a2)], [.int (M1.1 4 a1.toNatClampNeg)], M1)) rfl (fun _ => ?_)
      exact pm_irI rfl rfl
    refine pm_isw (fun _ => ?_) (fun _ => ?_)
    · show pm_Im _ _ _ _ _ _ (50, [some (.ref 0), some (.int a1), some (.int a2)], [], M1)
      refine pm_irun 4 (σ' := (58, [some (.ref 0), some (.int a1), some (.int a2)], [.int a1, .ref 5], M1)) rfl ?_
      refine pm_igd (σ1 := (59, [some (.ref 0), some (.int a1), some (.int a2)], [.int (M1.1 5 a1.toNatClampNeg)], M1)) rfl (fun _ => ?_)
      exact pm_irI rfl rfl
    refine pm_isw (fun _ => ?_) (fun _ => ?_)
    · show pm_Im _ _ _ _ _ _ (60, [some (.ref 0), some (.int a1), some (.int a2)], [], M1)
      refine pm_irun 4 (σ' := (68, [some (.ref 0), some (.int a1), some (.int a2)], [.int a1, .ref 18], M1)) rfl ?_
      refine pm_igd (σ1 := (69, [some (.ref 0), some (.int a1), some (.int a2)], [.int (M1.1 18 a1.toNatClampNeg)], M1)) rfl (fun _ => ?_)
      refine pm_iite (σ1 := (76, [some (.ref 0), some (.int a1), some (.int a2)], [], M1)) (σ2 := (72, [some (.ref 0), some (.int a1), some (.int a2)], [], M1)) rfl (fun _ => ?_) (fun _ => ?_)
      · refine pm_irun 1 (σ' := (77, [some (.ref 0), some (.int a1), some (.int a2)], [.int (0 : Int32)], M1)) rfl ?_
        exact pm_irI rfl rfl
      · refine pm_irun 2 (σ' := (77, [some (.ref 0), some (.int a1), some (.int a2)], [.int (1 : Int32)], M1)) rfl ?_
        exact pm_irI rfl rfl
    refine pm_isw (fun _ => ?_) (fun _ => ?_)
    · show pm_Im _ _ _ _ _ _ (78, [some (.ref 0), some (.int a1), some (.int a2)], [], M1)
      refine pm_irun 4 (σ' := (86, [some (.ref 0), some (.int a1), some (.int a2)], [.int a1, .ref 17], M1)) rfl ?_
      refine pm_igd (σ1 := (87, [some (.ref 0), some (.int a1), some (.int a2)], [.int (M1.1 17 a1.toNatClampNeg)], M1)) rfl (fun _ => ?_)
      exact pm_irI rfl rfl
    show pm_Im _ _ _ _ _ _ (88, [some (.ref 0), some (.int a1), some (.int a2)], [], M1)
    refine pm_irun 1 (σ' := (90, [some (.ref 0), some (.int a1), some (.int a2)], [.int (-2 : Int32)], M1)) rfl ?_
    exact pm_irI rfl rfl
  · refine pm_irun 1 (σ' := (9, [some (.ref 0), some (.int a1), some (.int a2)], [.int (-2 : Int32)], M1)) rfl ?_
    exact pm_irI rfl rfl
def sJInt_numberOfTrailingZeros (a1 : Int32) (M : pm_M) : Option (Int32 × pm_M) := pm_lt (((a1 ^^^ (-1 : Int32)) &&& (a1 - (1 : Int32)))) fun x1 => if 0 < x1 then (pm_jn (fun (x4 : Int32) (x5 : Int32) (M3 : pm_M) => pm_jn (fun (x8 : Int32) (x9 : Int32) (M7 : pm_M) => pm_jn (fun (x12 : Int32) (x13 : Int32) (M11 : pm_M) => if x12 ≤ (4 : Int32) then (some ((x13 + (x12.toUInt32 >>> ((1 : Int32).toUInt32 &&& Int32.toUInt32 31)).toInt32), M11)) else (pm_lt ((x13 + (2 : Int32))) fun x14 => pm_lt ((x12.toUInt32 >>> ((2 : Int32).toUInt32 &&& Int32.toUInt32 31)).toInt32) fun x15 => some ((x14 + (x15.toUInt32 >>> ((1 : Int32).toUInt32 &&& Int32.toUInt32 31)).toInt32), M11))) fun (j10 : Int32 → Int32 → pm_M → Option (Int32 × pm_M)) => if x8 ≤ (16 : Int32) then (j10 x8 x9 M7) else (pm_lt ((x9 + (4 : Int32))) fun x16 => pm_lt ((x8.toUInt32 >>> ((4 : Int32).toUInt32 &&& Int32.toUInt32 31)).toInt32) fun x17 => j10 x17 x16 M7)) fun (j6 : Int32 → Int32 → pm_M → Option (Int32 × pm_M)) => if x4 ≤ (256 : Int32) then (j6 x4 x5 M3) else (pm_lt ((x5 + (8 : Int32))) fun x18 => pm_lt ((x4.toUInt32 >>> ((8 : Int32).toUInt32 &&& Int32.toUInt32 31)).toInt32) fun x19 => j6 x19 x18 M3)) fun (j2 : Int32 → Int32 → pm_M → Option (Int32 × pm_M)) => if x1 ≤ (65536 : Int32) then (j2 x1 (1 : Int32) M) else (pm_lt (((1 : Int32) + (16 : Int32))) fun x20 => pm_lt ((x1.toUInt32 >>> ((16 : Int32).toUInt32 &&& Int32.toUInt32 31)).toInt32) fun x21 => j2 x21 x20 M)) else (some ((x1 &&& (32 : Int32)), M))
abbrev I_JInt_numberOfTrailingZeros (sh : Option (Int32 × pm_M)) (σ : pm_St) : Prop := pm_Im none (pm_Ev 0) pm_T205 (some .int) pm_rI sh σ
set_option maxHeartbeats 4000000 in
set_option maxRecDepth 100000 in
theorem sJInt_numberOfTrailingZeros_ok (a1 : Int32) (M : pm_M) : ∀ r, sJInt_numberOfTrailingZeros a1 M = some r → pm_Ev 1 205 [.int a1] M (pm_rI r).1 (pm_rI r).2 := by
  refine pm_meth (al := [some (.int a1), none]) rfl rfl rfl rfl rfl ?_
  unfold sJInt_numberOfTrailingZeros
  show I_JInt_numberOfTrailingZeros _ (0, [some (.int a1), none], [], M)
  refine pm_irun 8 (σ' := (8, [some (.int ((a1 ^^^ (-1 : Int32)) &&& (a1 - (1 : Int32)))), none], [], M)) rfl ?_
  refine pm_ilt (fun y => (8, [some (.int y), none], [], M)) (fun x1 => ?_)
  refine pm_irun 1 (σ' := (9, [some (.int x1), none], [.int x1], M)) rfl ?_
  refine pm_iite (σ1 := (17, [some (.int x1), none], [], M)) (σ2 := (12, [some (.int x1), none], [], M)) rfl (fun _ => ?_) (fun _ => ?_)
  · refine pm_irun 2 (σ' := (19, [some (.int x1), some (.int (1 : Int32))], [], M)) rfl ?_
    refine pm_irun 2 (σ' := (23, [some (.int x1), some (.int (1 : Int32))], [.int (65536 : Int32), .int x1], M)) rfl ?_
    refine pm_ijn (fun (g : Int32 → Int32 → pm_M → Option (Int32 × pm_M)) => ∀ (x4 : Int32) (x5 : Int32) (M3 : pm_M), I_JInt_numberOfTrailingZeros (g x4 x5 M3) (34, [some (.int x4), some (.int x5)], [], M3)) (fun (x4 : Int32) (x5 : Int32) (M3 : pm_M) => ?_) (fun j2 hj2 => ?_)
    · show I_JInt_numberOfTrailingZeros _ (34, [some (.int x4), some (.int x5)], [], M3)
      refine pm_irun 2 (σ' := (38, [some (.int x4), some (.int x5)], [.int (256 : Int32), .int x4], M3)) rfl ?_
      refine pm_ijn (fun (g : Int32 → Int32 → pm_M → Option (Int32 × pm_M)) => ∀ (x8 : Int32) (x9 : Int32) (M7 : pm_M), I_JInt_numberOfTrailingZeros (g x8 x9 M7) (49, [some (.int x8), some (.int x9)], [], M7)) (fun (x8 : Int32) (x9 : Int32) (M7 : pm_M) => ?_) (fun j6 hj6 => ?_)
      · show I_JInt_numberOfTrailingZeros _ (49, [some (.int x8), some (.int x9)], [], M7)
        refine pm_irun 2 (σ' := (52, [some (.int x8), some (.int x9)], [.int (16 : Int32), .int x8], M7)) rfl ?_
        refine pm_ijn (fun (g : Int32 → Int32 → pm_M → Option (Int32 × pm_M)) => ∀ (x12 : Int32) (x13 : Int32) (M11 : pm_M), I_JInt_numberOfTrailingZeros (g x12 x13 M11) (62, [some (.int x12), some (.int x13)], [], M11)) (fun (x12 : Int32) (x13 : Int32) (M11 : pm_M) => ?_) (fun j10 hj10 => ?_)
        · show I_JInt_numberOfTrailingZeros _ (62, [some (.int x12), some (.int x13)], [], M11)
          refine pm_irun 2 (σ' := (64, [some (.int x12), some (.int x13)], [.int (4 : Int32), .int x12], M11)) rfl ?_
          refine pm_iite (σ1 := (74, [some (.int x12), some (.int x13)], [], M11)) (σ2 := (67, [some (.int x12), some (.int x13)], [], M11)) rfl (fun _ => ?_) (fun _ => ?_)
          · refine pm_irun 5 (σ' := (79, [some (.int x12), some (.int x13)], [.int (x13 + (x12.toUInt32 >>> ((1 : Int32).toUInt32 &&& Int32.toUInt32 31)).toInt32)], M11)) rfl ?_
            exact pm_irI rfl rfl
          · refine pm_irun 1 (σ' := (70, [some (.int x12), some (.int (x13 + (2 : Int32)))], [], M11)) rfl ?_
            refine pm_ilt (fun y => (70, [some (.int x12), some (.int y)], [], M11)) (fun x14 => ?_)
            refine pm_irun 4 (σ' := (74, [some (.int (x12.toUInt32 >>> ((2 : Int32).toUInt32 &&& Int32.toUInt32 31)).toInt32), some (.int x14)], [], M11)) rfl ?_
            refine pm_ilt (fun y => (74, [some (.int y), some (.int x14)], [], M11)) (fun x15 => ?_)
            refine pm_irun 5 (σ' := (79, [some (.int x15), some (.int x14)], [.int (x14 + (x15.toUInt32 >>> ((1 : Int32).toUInt32 &&& Int32.toUInt32 31)).toInt32)], M11)) rfl ?_
            exact pm_irI rfl rfl
        refine pm_iite (σ1 := (62, [some (.int x8), some (.int x9)], [], M7)) (σ2 := (55, [some (.int x8), some (.int x9)], [], M7)) rfl (fun _ => ?_) (fun _ => ?_)
        · exact hj10 _ _ _
        · refine pm_irun 1 (σ' := (58, [some (.int x8), some (.int (x9 + (4 : Int32)))], [], M7)) rfl ?_
          refine pm_ilt (fun y => (58, [some (.int x8), some (.int y)], [], M7)) (fun x16 => ?_)
          refine pm_irun 4 (σ' := (62, [some (.int (x8.toUInt32 >>> ((4 : Int32).toUInt32 &&& Int32.toUInt32 31)).toInt32), some (.int x16)], [], M7)) rfl ?_
          refine pm_ilt (fun y => (62, [some (.int y), some (.int x16)], [], M7)) (fun x17 => ?_)
          exact hj10 _ _ _
      refine pm_iite (σ1 := (49, [some (.int x4), some (.int x5)], [], M3)) (σ2 := (41, [some (.int x4), some (.int x5)], [], M3)) rfl (fun _ => ?_) (fun _ => ?_)
      · exact hj6 _ _ _
      · refine pm_irun 1 (σ' := (44, [some (.int x4), some (.int (x5 + (8 : Int32)))], [], M3)) rfl ?_
        refine pm_ilt (fun y => (44, [some (.int x4), some (.int y)], [], M3)) (fun x18 => ?_)
        refine pm_irun 4 (σ' := (49, [some (.int (x4.toUInt32 >>> ((8 : Int32).toUInt32 &&& Int32.toUInt32 31)).toInt32), some (.int x18)], [], M3)) rfl ?_
        refine pm_ilt (fun y => (49, [some (.int y), some (.int x18)], [], M3)) (fun x19 => ?_)
        exact hj6 _ _ _
    refine pm_iite (σ1 := (34, [some (.int x1), some (.int (1 : Int32))], [], M)) (σ2 := (26, [some (.int x1), some (.int (1 : Int32))], [], M)) rfl (fun _ => ?_) (fun _ => ?_)
    · exact hj2 _ _ _
    · refine pm_irun 1 (σ' := (29, [some (.int x1), some (.int ((1 : Int32) + (16 : Int32)))], [], M)) rfl ?_
      refine pm_ilt (fun y => (29, [some (.int x1), some (.int y)], [], M)) (fun x20 => ?_)
      refine pm_irun 4 (σ' := (34, [some (.int (x1.toUInt32 >>> ((16 : Int32).toUInt32 &&& Int32.toUInt32 31)).toInt32), some (.int x20)], [], M)) rfl ?_
      refine pm_ilt (fun y => (34, [some (.int y), some (.int x20)], [], M)) (fun x21 => ?_)
      exact hj2 _ _ _
  · refine pm_irun 3 (σ' := (16, [some (.int x1), none], [.int (x1 &&& (32 : Int32))], M)) rfl ?_
    exact pm_irI rfl rfl
def sR_from (a1 : Int32) (a2 : Int32) (M : pm_M) : Option (Int32 × pm_M) := pm_lt (((1 : Int32) <<< (a2 &&& 31))) fun x1 => pm_loop (fun _ _ _ _ => none) (fun (g2 : Int32 → Int32 → Int32 → pm_M → Option (Int32 × pm_M)) x4 x5 x6 M3 => if x6 = 0 then (some (x4, M3)) else (pm_bd (sJInt_numberOfTrailingZeros x6 M3) fun v8 M7 => pm_lt ((x5 ||| ((1 : Int32) <<< (v8 &&& 31)))) fun x9 => pm_loop (fun _ _ _ => none) (fun (g10 : Int32 → Int32 → pm_M → Option (Int32 × pm_M)) x12 x13 M11 => if (M11.1 49 1) ≤ x13 then (pm_lt ((x12 &&& (x9 ^^^ (-1 : Int32)))) fun x14 => g2 x12 x9 x14 M11) else (pm_bd (sR_routeAt a1 v8 x13 M11) fun v16 M15 => if pm_in v16 50 then (if (M15.1 54 v16.toNatClampNeg) ≤ 0 then (pm_lt ((x13 + (1 : Int32))) fun x17 => g10 x12 x17 M15) else (pm_lt ((x12 ||| ((1 : Int32) <<< (x13 &&& 31)))) fun x18 => pm_lt ((x13 + (1 : Int32))) fun x19 => g10 x18 x19 M15)) else none)) 1000000 x4 (0 : Int32) M7)) 1000000 (0 : Int32) (0 : Int32) x1 M
abbrev I_R_from (sh : Option (Int32 × pm_M)) (σ : pm_St) : Prop := pm_Im none (pm_Ev 1) pm_T138 (some .int) pm_rI sh σ
set_option maxHeartbeats 4000000 in
set_option maxRecDepth 100000 in
theorem sR_from_ok (a1 : Int32) (a2 : Int32) (M : pm_M) : ∀ r, sR_from a1 a2 M = some r → pm_Ev 2 138 [.ref 49, .int a1, .int a2] M (pm_rI r).1 (pm_rI r).2 := by
  refine pm_meth (al := [some (.ref 49), some (.int a1), some (.int a2), none, none, none, none, none]) rfl rfl rfl rfl rfl ?_
  unfold sR_from
  show I_R_from _ (0, [some (.ref 49), some (.int a1), some (.int a2), none, none, none, none, none], [], M)
  refine pm_irun 2 (σ' := (2, [some (.ref 49), some (.int a1), some (.int a2), some (.int (0 : Int32)), none, none, none, none], [], M)) rfl ?_
  refine pm_irun 2 (σ' := (5, [some (.ref 49), some (.int a1), some (.int a2), some (.int (0 : Int32)), some (.int (0 : Int32)), none, none, none], [], M)) rfl ?_
  refine pm_irun 4 (σ' := (10, [some (.ref 49), some (.int a1), some (.int a2), some (.int (0 : Int32)), some (.int (0 : Int32)), some (.int ((1 : Int32) <<< (a2 &&& 31))), none, none], [], M)) rfl ?_
  refine pm_ilt (fun y => (10, [some (.ref 49), some (.int a1), some (.int a2), some (.int (0 : Int32)), some (.int (0 : Int32)), some (.int y), none, none], [], M)) (fun x1 => ?_)
  refine pm_iwk (al' := [some (.ref 49), some (.int a1), none, some (.int (0 : Int32)), some (.int (0 : Int32)), some (.int x1), none, none]) (pm_wkS (pm_wkS (pm_wkN (pm_wkS (pm_wkS (pm_wkS (pm_wkS (pm_wkS pm_wk0)))))))) ?_
  refine pm_iloop (fun (g : Int32 → Int32 → Int32 → pm_M → Option (Int32 × pm_M)) => ∀ (x4 : Int32) (x5 : Int32) (x6 : Int32) (M3 : pm_M), I_R_from (g x4 x5 x6 M3) (10, [some (.ref 49), some (.int a1), none, some (.int x4), some (.int x5), some (.int x6), none, none], [], M3)) (fun _ _ _ _ => pm_inone) (fun g2 hg2 x4 x5 x6 M3 => ?_) 1000000 _ _ _ _
  show I_R_from _ (10, [some (.ref 49), some (.int a1), none, some (.int x4), some (.int x5), some (.int x6), none, none], [], M3)
  refine pm_irun 1 (σ' := (12, [some (.ref 49), some (.int a1), none, some (.int x4), some (.int x5), some (.int x6), none, none], [.int x6], M3)) rfl ?_
  refine pm_iite (σ1 := (83, [some (.ref 49), some (.int a1), none, some (.int x4), some (.int x5), some (.int x6), none, none], [], M3)) (σ2 := (15, [some (.ref 49), some (.int a1), none, some (.int x4), some (.int x5), some (.int x6), none, none], [], M3)) rfl (fun _ => ?_) (fun _ => ?_)
  · refine pm_irun 1 (σ' := (84, [some (.ref 49), some (.int a1), none, some (.int x4), some (.int x5), some (.int x6), none, none], [.int x4], M3)) rfl ?_
    exact pm_irI rfl rfl
  · refine pm_irun 1 (σ' := (17, [some (.ref 49), some (.int a1), none, some (.int x4), some (.int x5), some (.int x6), none, none], [.int x6], M3)) rfl ?_
    refine pm_icI (as := [.int x6]) (rest := []) rfl rfl rfl rfl (Nat.le_of_ble_eq_true rfl) rfl (fun r h => pm_Ev_mono (Nat.le_of_ble_eq_true rfl) (sJInt_numberOfTrailingZeros_ok x6 M3 r h)) (fun v8 M7 => ?_)
    show pm_Im _ _ _ _ _ _ (20, [some (.ref 49), some (.int a1), none, some (.int x4), some (.int x5), some (.int x6), none, none], [.int v8], M7)
    refine pm_irun 1 (σ' := (22, [some (.ref 49), some (.int a1), none, some (.int x4), some (.int x5), some (.int x6), some (.int v8), none], [], M7)) rfl ?_
    refine pm_irun 6 (σ' := (31, [some (.ref 49), some (.int a1), none, some (.int x4), some (.int (x5 ||| ((1 : Int32) <<< (v8 &&& 31)))), some (.int x6), some (.int v8), none], [], M7)) rfl ?_
    refine pm_ilt (fun y => (31, [some (.ref 49), some (.int a1), none, some (.int x4), some (.int y), some (.int x6), some (.int v8), none], [], M7)) (fun x9 => ?_)
    refine pm_irun 2 (σ' := (34, [some (.ref 49), some (.int a1), none, some (.int x4), some (.int x9), some (.int x6), some (.int v8), some (.int (0 : Int32))], [], M7)) rfl ?_
    refine pm_iwk (al' := [some (.ref 49), some (.int a1), none, some (.int x4), some (.int x9), none, some (.int v8), some (.int (0 : Int32))]) (pm_wkS (pm_wkS (pm_wkS (pm_wkS (pm_wkS (pm_wkN (pm_wkS (pm_wkS pm_wk0)))))))) ?_
    refine pm_iloop (fun (g : Int32 → Int32 → pm_M → Option (Int32 × pm_M)) => ∀ (x12 : Int32) (x13 : Int32) (M11 : pm_M), I_R_from (g x12 x13 M11) (34, [some (.ref 49), some (.int a1), none, some (.int x12), some (.int x9), none, some (.int v8), some (.int x13)], [], M11)) (fun _ _ _ => pm_inone) (fun g10 hg10 x12 x13 M11 => ?_) 1000000 _ _ _
    show I_R_from _ (34, [some (.ref 49), some (.int a1), none, some (.int x12), some (.int x9), none, some (.int v8), some (.int x13)], [], M11)
    refine pm_irun 3 (σ' := (40, [some (.ref 49), some (.int a1), none, some (.int x12), some (.int x9), none, some (.int v8), some (.int x13)], [.int (M11.1 49 1), .int x13], M11)) rfl ?_
    refine pm_iite (σ1 := (72, [some (.ref 49), some (.int a1), none, some (.int x12), some (.int x9), none, some (.int v8), some (.int x13)], [], M11)) (σ2 := (43, [some (.ref 49), some (.int a1), none, some (.int x12), some (.int x9), none, some (.int v8), some (.int x13)], [], M11)) rfl (fun _ => ?_) (fun _ => ?_)
    · refine pm_irun 6 (σ' := (80, [some (.ref 49), some (.int a1), none, some (.int x12), some (.int x9), some (.int (x12 &&& (x9 ^^^ (-1 : Int32)))), some (.int v8), some (.int x13)], [], M11)) rfl ?_
      refine pm_ilt (fun y => (80, [some (.ref 49), some (.int a1), none, some (.int x12), some (.int x9), some (.int y), some (.int v8), some (.int x13)], [], M11)) (fun x14 => ?_)
      refine pm_irun 1 (σ' := (10, [some (.ref 49), some (.int a1), none, some (.int x12), some (.int x9), some (.int x14), some (.int v8), some (.int x13)], [], M11)) rfl ?_
      refine pm_iwk (al' := [some (.ref 49), some (.int a1), none, some (.int x12), some (.int x9), some (.int x14), none, none]) (pm_wkS (pm_wkS (pm_wkS (pm_wkS (pm_wkS (pm_wkS (pm_wkN (pm_wkN pm_wk0)))))))) ?_
      exact hg2 _ _ _ _
    · refine pm_irun 5 (σ' := (52, [some (.ref 49), some (.int a1), none, some (.int x12), some (.int x9), none, some (.int v8), some (.int x13)], [.int x13, .int v8, .int a1, .ref 54], M11)) rfl ?_
      refine pm_icI (as := [.int a1, .int v8, .int x13]) (rest := [.ref 54]) rfl rfl rfl rfl (Nat.le_of_ble_eq_true rfl) rfl (fun r h => pm_Ev_mono (Nat.le_of_ble_eq_true rfl) (sR_routeAt_ok a1 v8 x13 M11 r h)) (fun v16 M15 => ?_)
      show pm_Im _ _ _ _ _ _ (55, [some (.ref 49), some (.int a1), none, some (.int x12), some (.int x9), none, some (.int v8), some (.int x13)], [.int v16, .ref 54], M15)
      refine pm_igd (σ1 := (56, [some (.ref 49), some (.int a1), none, some (.int x12), some (.int x9), none, some (.int v8), some (.int x13)], [.int (M15.1 54 v16.toNatClampNeg)], M15)) rfl (fun _ => ?_)
      refine pm_iite (σ1 := (66, [some (.ref 49), some (.int a1), none, some (.int x12), some (.int x9), none, some (.int v8), some (.int x13)], [], M15)) (σ2 := (59, [some (.ref 49), some (.int a1), none, some (.int x12), some (.int x9), none, some (.int v8), some (.int x13)], [], M15)) rfl (fun _ => ?_) (fun _ => ?_)
      · refine pm_irun 1 (σ' := (69, [some (.ref 49), some (.int a1), none, some (.int x12), some (.int x9), none, some (.int v8), some (.int (x13 + (1 : Int32)))], [], M15)) rfl ?_
        refine pm_ilt (fun y => (69, [some (.ref 49), some (.int a1), none, some (.int x12), some (.int x9), none, some (.int v8), some (.int y)], [], M15)) (fun x17 => ?_)
        refine pm_irun 1 (σ' := (34, [some (.ref 49), some (.int a1), none, some (.int x12), some (.int x9), none, some (.int v8), some (.int x17)], [], M15)) rfl ?_
        exact hg10 _ _ _
      · refine pm_irun 6 (σ' := (66, [some (.ref 49), some (.int a1), none, some (.int (x12 ||| ((1 : Int32) <<< (x13 &&& 31)))), some (.int x9), none, some (.int v8), some (.int x13)], [], M15)) rfl ?_
        refine pm_ilt (fun y => (66, [some (.ref 49), some (.int a1), none, some (.int y), some (.int x9), none, some (.int v8), some (.int x13)], [], M15)) (fun x18 => ?_)
        refine pm_irun 1 (σ' := (69, [some (.ref 49), some (.int a1), none, some (.int x18), some (.int x9), none, some (.int v8), some (.int (x13 + (1 : Int32)))], [], M15)) rfl ?_
        refine pm_ilt (fun y => (69, [some (.ref 49), some (.int a1), none, some (.int x18), some (.int x9), none, some (.int v8), some (.int y)], [], M15)) (fun x19 => ?_)
        refine pm_irun 1 (σ' := (34, [some (.ref 49), some (.int a1), none, some (.int x18), some (.int x9), none, some (.int v8), some (.int x19)], [], M15)) rfl ?_
        exact hg10 _ _ _
def sR_reached (a1 : Int32) (M : pm_M) : Option (Int32 × pm_M) := if pm_in a1 2 then (if ¬ (M.1 52 a1.toNatClampNeg) = (-1 : Int32) then (if pm_in a1 2 then (pm_bd (sR_from a1 (M.1 52 a1.toNatClampNeg) M) fun v2 M1 => if pm_in a1 2 then (some ((v2 ||| ((1 : Int32) <<< ((M1.1 52 a1.toNatClampNeg) &&& 31))), M1)) else none) else none) else (some ((0 : Int32), M))) else none
abbrev I_R_reached (sh : Option (Int32 × pm_M)) (σ : pm_St) : Prop := pm_Im none (pm_Ev 2) pm_T139 (some .int) pm_rI sh σ
set_option maxHeartbeats 4000000 in
set_option maxRecDepth 100000 in
theorem sR_reached_ok (a1 : Int32) (M : pm_M) : ∀ r, sR_reached a1 M = some r → pm_Ev 3 139 [.ref 49, .int a1] M (pm_rI r).1 (pm_rI r).2 := by
  refine pm_meth (al := [some (.ref 49), some (.int a1)]) rfl rfl rfl rfl rfl ?_
  unfold sR_reached
  show I_R_reached _ (0, [some (.ref 49), some (.int a1)], [], M)
  refine pm_irun 3 (σ' := (5, [some (.ref 49), some (.int a1)], [.int a1, .ref 52], M)) rfl ?_
  refine pm_igd (σ1 := (6, [some (.ref 49), some (.int a1)], [.int (M.1 52 a1.toNatClampNeg)], M)) rfl (fun _ => ?_)
  refine pm_irun 1 (σ' := (7, [some (.ref 49), some (.int a1)], [.int (-1 : Int32), .int (M.1 52 a1.toNatClampNeg)], M)) rfl ?_
  refine pm_iite (σ1 := (14, [some (.ref 49), some (.int a1)], [], M)) (σ2 := (10, [some (.ref 49), some (.int a1)], [], M)) rfl (fun _ => ?_) (fun _ => ?_)
  · refine pm_irun 5 (σ' := (21, [some (.ref 49), some (.int a1)], [.int a1, .ref 52, .int a1, .ref 49], M)) rfl ?_
    refine pm_igd (σ1 := (22, [some (.ref 49), some (.int a1)], [.int (M.1 52 a1.toNatClampNeg), .int a1, .ref 49], M)) rfl (fun _ => ?_)
    refine pm_icI (as := [.ref 49, .int a1, .int (M.1 52 a1.toNatClampNeg)]) (rest := []) rfl rfl rfl rfl (Nat.le_of_ble_eq_true rfl) rfl (fun r h => pm_Ev_mono (Nat.le_of_ble_eq_true rfl) (sR_from_ok a1 (M.1 52 a1.toNatClampNeg) M r h)) (fun v2 M1 => ?_)
    show pm_Im _ _ _ _ _ _ (25, [some (.ref 49), some (.int a1)], [.int v2], M1)
    refine pm_irun 4 (σ' := (31, [some (.ref 49), some (.int a1)], [.int a1, .ref 52, .int (1 : Int32), .int v2], M1)) rfl ?_
    refine pm_igd (σ1 := (32, [some (.ref 49), some (.int a1)], [.int (M1.1 52 a1.toNatClampNeg), .int (1 : Int32), .int v2], M1)) rfl (fun _ => ?_)
    refine pm_irun 2 (σ' := (34, [some (.ref 49), some (.int a1)], [.int (v2 ||| ((1 : Int32) <<< ((M1.1 52 a1.toNatClampNeg) &&& 31)))], M1)) rfl ?_
    exact pm_irI rfl rfl
  · refine pm_irun 2 (σ' := (34, [some (.ref 49), some (.int a1)], [.int (0 : Int32)], M)) rfl ?_
    exact pm_irI rfl rfl
def sR_goesRound (a1 : Int32) (M : pm_M) : Option (Int32 × pm_M) := if pm_in a1 2 then (if ¬ (M.1 52 a1.toNatClampNeg) = (-1 : Int32) then (pm_bd (sR_reached a1 M) fun v2 M1 => pm_loop (fun _ _ => none) (fun (g3 : Int32 → pm_M → Option (Int32 × pm_M)) x5 M4 => if (M4.1 49 1) ≤ x5 then (some ((1 : Int32), M4)) else (if ¬ ((v2 >>> (x5 &&& 31)) &&& (1 : Int32)) = (1 : Int32) then (pm_lt ((x5 + (1 : Int32))) fun x6 => g3 x6 M4) else (pm_bd (sR_from a1 x5 M4) fun v8 M7 => if pm_in a1 2 then (if ¬ ((v8 >>> ((M7.1 52 a1.toNatClampNeg) &&& 31)) &&& (1 : Int32)) = 0 then (pm_lt ((x5 + (1 : Int32))) fun x9 => g3 x9 M7) else (some ((0 : Int32), M7))) else none))) 1000000 (0 : Int32) M1) else (some ((0 : Int32), M))) else none
abbrev I_R_goesRound (sh : Option (Int32 × pm_M)) (σ : pm_St) : Prop := pm_Im none (pm_Ev 3) pm_T140 (some .boolean) pm_rI sh σ
set_option maxHeartbeats 4000000 in
set_option maxRecDepth 100000 in
theorem sR_goesRound_ok (a1 : Int32) (M : pm_M) : ∀ r, sR_goesRound a1 M = some r → pm_Ev 4 140 [.ref 49, .int a1] M (pm_rI r).1 (pm_rI r).2 := by
  refine pm_meth (al := [some (.ref 49), some (.int a1), none, none]) rfl rfl rfl rfl rfl ?_
  unfold sR_goesRound
  show I_R_goesRound _ (0, [some (.ref 49), some (.int a1), none, none], [], M)
  refine pm_irun 3 (σ' := (5, [some (.ref 49), some (.int a1), none, none], [.int a1, .ref 52], M)) rfl ?_
  refine pm_igd (σ1 := (6, [some (.ref 49), some (.int a1), none, none], [.int (M.1 52 a1.toNatClampNeg)], M)) rfl (fun _ => ?_)
  refine pm_irun 1 (σ' := (7, [some (.ref 49), some (.int a1), none, none], [.int (-1 : Int32), .int (M.1 52 a1.toNatClampNeg)], M)) rfl ?_
  refine pm_iite (σ1 := (12, [some (.ref 49), some (.int a1), none, none], [], M)) (σ2 := (10, [some (.ref 49), some (.int a1), none, none], [], M)) rfl (fun _ => ?_) (fun _ => ?_)
  · refine pm_irun 2 (σ' := (14, [some (.ref 49), some (.int a1), none, none], [.int a1, .ref 49], M)) rfl ?_
    refine pm_icI (as := [.ref 49, .int a1]) (rest := []) rfl rfl rfl rfl (Nat.le_of_ble_eq_true rfl) rfl (fun r h => pm_Ev_mono (Nat.le_of_ble_eq_true rfl) (sR_reached_ok a1 M r h)) (fun v2 M1 => ?_)
    show pm_Im _ _ _ _ _ _ (17, [some (.ref 49), some (.int a1), none, none], [.int v2], M1)
    refine pm_irun 1 (σ' := (18, [some (.ref 49), some (.int a1), some (.int v2), none], [], M1)) rfl ?_
    refine pm_irun 2 (σ' := (20, [some (.ref 49), some (.int a1), some (.int v2), some (.int (0 : Int32))], [], M1)) rfl ?_
    refine pm_iloop (fun (g : Int32 → pm_M → Option (Int32 × pm_M)) => ∀ (x5 : Int32) (M4 : pm_M), I_R_goesRound (g x5 M4) (20, [some (.ref 49), some (.int a1), some (.int v2), some (.int x5)], [], M4)) (fun _ _ => pm_inone) (fun g3 hg3 x5 M4 => ?_) 1000000 _ _
    show I_R_goesRound _ (20, [some (.ref 49), some (.int a1), some (.int v2), some (.int x5)], [], M4)
    refine pm_irun 3 (σ' := (25, [some (.ref 49), some (.int a1), some (.int v2), some (.int x5)], [.int (M4.1 49 1), .int x5], M4)) rfl ?_
    refine pm_iite (σ1 := (63, [some (.ref 49), some (.int a1), some (.int v2), some (.int x5)], [], M4)) (σ2 := (28, [some (.ref 49), some (.int a1), some (.int v2), some (.int x5)], [], M4)) rfl (fun _ => ?_) (fun _ => ?_)
    · refine pm_irun 1 (σ' := (64, [some (.ref 49), some (.int a1), some (.int v2), some (.int x5)], [.int (1 : Int32)], M4)) rfl ?_
      exact pm_irZ (Or.inr rfl) rfl rfl
    · refine pm_irun 6 (σ' := (34, [some (.ref 49), some (.int a1), some (.int v2), some (.int x5)], [.int (1 : Int32), .int ((v2 >>> (x5 &&& 31)) &&& (1 : Int32))], M4)) rfl ?_
      refine pm_iite (σ1 := (57, [some (.ref 49), some (.int a1), some (.int v2), some (.int x5)], [], M4)) (σ2 := (37, [some (.ref 49), some (.int a1), some (.int v2), some (.int x5)], [], M4)) rfl (fun _ => ?_) (fun _ => ?_)
      · refine pm_irun 1 (σ' := (60, [some (.ref 49), some (.int a1), some (.int v2), some (.int (x5 + (1 : Int32)))], [], M4)) rfl ?_
        refine pm_ilt (fun y => (60, [some (.ref 49), some (.int a1), some (.int v2), some (.int y)], [], M4)) (fun x6 => ?_)
        refine pm_irun 1 (σ' := (20, [some (.ref 49), some (.int a1), some (.int v2), some (.int x6)], [], M4)) rfl ?_
        exact hg3 _ _
      · refine pm_irun 3 (σ' := (40, [some (.ref 49), some (.int a1), some (.int v2), some (.int x5)], [.int x5, .int a1, .ref 49], M4)) rfl ?_
        refine pm_icI (as := [.ref 49, .int a1, .int x5]) (rest := []) rfl rfl rfl rfl (Nat.le_of_ble_eq_true rfl) rfl (fun r h => pm_Ev_mono (Nat.le_of_ble_eq_true rfl) (sR_from_ok a1 x5 M4 r h)) (fun v8 M7 => ?_)
        show pm_Im _ _ _ _ _ _ (43, [some (.ref 49), some (.int a1), some (.int v2), some (.int x5)], [.int v8], M7)
        refine pm_irun 3 (σ' := (48, [some (.ref 49), some (.int a1), some (.int v2), some (.int x5)], [.int a1, .ref 52, .int v8], M7)) rfl ?_
        refine pm_igd (σ1 := (49, [some (.ref 49), some (.int a1), some (.int v2), some (.int x5)], [.int (M7.1 52 a1.toNatClampNeg), .int v8], M7)) rfl (fun _ => ?_)
        refine pm_irun 3 (σ' := (52, [some (.ref 49), some (.int a1), some (.int v2), some (.int x5)], [.int ((v8 >>> ((M7.1 52 a1.toNatClampNeg) &&& 31)) &&& (1 : Int32))], M7)) rfl ?_
        refine pm_iite (σ1 := (57, [some (.ref 49), some (.int a1), some (.int v2), some (.int x5)], [], M7)) (σ2 := (55, [some (.ref 49), some (.int a1), some (.int v2), some (.int x5)], [], M7)) rfl (fun _ => ?_) (fun _ => ?_)
        · refine pm_irun 1 (σ' := (60, [some (.ref 49), some (.int a1), some (.int v2), some (.int (x5 + (1 : Int32)))], [], M7)) rfl ?_
          refine pm_ilt (fun y => (60, [some (.ref 49), some (.int a1), some (.int v2), some (.int y)], [], M7)) (fun x9 => ?_)
          refine pm_irun 1 (σ' := (20, [some (.ref 49), some (.int a1), some (.int v2), some (.int x9)], [], M7)) rfl ?_
          exact hg3 _ _
        · refine pm_irun 1 (σ' := (56, [some (.ref 49), some (.int a1), some (.int v2), some (.int x5)], [.int (0 : Int32)], M7)) rfl ?_
          exact pm_irZ (Or.inl rfl) rfl rfl
  · refine pm_irun 1 (σ' := (11, [some (.ref 49), some (.int a1), none, none], [.int (0 : Int32)], M)) rfl ?_
    exact pm_irZ (Or.inl rfl) rfl rfl
def sR_of (a1 : Int32) (a2 : Int32) (M : pm_M) : Option (Int32 × pm_M) := pm_bd (sR_isPart a1 M) fun v2 M1 => if ¬ v2 = 0 then (if a2 = Int32.ofNat 0 then (if pm_in a1 2 then (some ((M1.1 52 a1.toNatClampNeg), M1)) else none) else if a2 = Int32.ofNat 1 then (if pm_in a1 2 then (some ((M1.1 53 a1.toNatClampNeg), M1)) else none) else if a2 = Int32.ofNat 2 then (pm_bd (sR_goesRound a1 M1) fun v4 M3 => if v4 = 0 then (some ((0 : Int32), M3)) else (some ((1 : Int32), M3))) else if a2 = Int32.ofNat 3 then (pm_bd (sR_reached a1 M1) fun v6 M5 => some (v6, M5)) else (some ((-2 : Int32), M1))) else (some ((-2 : Int32), M1))
abbrev I_R_of (sh : Option (Int32 × pm_M)) (σ : pm_St) : Prop := pm_Im none (pm_Ev 4) pm_T146 (some .int) pm_rI sh σ
set_option maxHeartbeats 4000000 in
set_option maxRecDepth 100000 in
theorem sR_of_ok (a1 : Int32) (a2 : Int32) (M : pm_M) : ∀ r, sR_of a1 a2 M = some r → pm_Ev 5 146 [.ref 49, .int a1, .int a2] M (pm_rI r).1 (pm_rI r).2 := by
  refine pm_meth (al := [some (.ref 49), some (.int a1), some (.int a2)]) rfl rfl rfl rfl rfl ?_
  unfold sR_of
  show I_R_of _ (0, [some (.ref 49), some (.int a1), some (.int a2)], [], M)
  refine pm_irun 1 (σ' := (1, [some (.ref 49), some (.int a1), some (.int a2)], [.int a1], M)) rfl ?_
  refine pm_icI (as := [.int a1]) (rest := []) rfl rfl rfl rfl (Nat.le_of_ble_eq_true rfl) rfl (fun r h => pm_Ev_mono (Nat.le_of_ble_eq_true rfl) (sR_isPart_ok a1 M r h)) (fun v2 M1 => ?_)
  show pm_Im _ _ _ _ _ _ (4, [some (.ref 49), some (.int a1), some (.int a2)], [.int v2], M1)
  refine pm_iite (σ1 := (10, [some (.ref 49), some (.int a1), some (.int a2)], [], M1)) (σ2 := (7, [some (.ref 49), some (.int a1), some (.int a2)], [], M1)) rfl (fun _ => ?_) (fun _ => ?_)
  · refine pm_irun 1 (σ' := (11, [some (.ref 49), some (.int a1), some (.int a2)], [.int a2], M1)) rfl ?_
    refine pm_irun 1 (σ' := (pm_sw a2 74 [0, 40, 1, 47, 2, 54, 3, 68], [some (.ref 49), some (.int a1), some (.int a2)], [], M1)) rfl ?_
    refine pm_isw (fun _ => ?_) (fun _ => ?_)
    · show pm_Im _ _ _ _ _ _ (40, [some (.ref 49), some (.int a1), some (.int a2)], [], M1)
      refine pm_irun 3 (σ' := (45, [some (.ref 49), some (.int a1), some (.int a2)], [.int a1, .ref 52], M1)) rfl ?_
      refine pm_igd (σ1 := (46, [some (.ref 49), some (.int a1), some (.int a2)], [.int (M1.1 52 a1.toNatClampNeg)], M1)) rfl (fun _ => ?_)
      exact pm_irI rfl rfl
    refine pm_isw (fun _ => ?_) (fun _ => ?_)
    · show pm_Im _ _ _ _ _ _ (47, [some (.ref 49), some (.int a1), some (.int a2)], [], M1)
      refine pm_irun 3 (σ' := (52, [some (.ref 49), some (.int a1), some (.int a2)], [.int a1, .ref 53], M1)) rfl ?_
      refine pm_igd (σ1 := (53, [some (.ref 49), some (.int a1), some (.int a2)], [.int (M1.1 53 a1.toNatClampNeg)], M1)) rfl (fun _ => ?_)
      exact pm_irI rfl rfl
    refine pm_isw (fun _ => ?_) (fun _ => ?_)
    · show pm_Im _ _ _ _ _ _ (54, [some (.ref 49), some (.int a1), some (.int a2)], [], M1)
      refine pm_irun 2 (σ' := (56, [some (.ref 49), some (.int a1), some (.int a2)], [.int a1, .ref 49], M1)) rfl ?_
      refine pm_icI (as := [.ref 49, .int a1]) (rest := []) rfl rfl rfl rfl (Nat.le_of_ble_eq_true rfl) rfl (fun r h => pm_Ev_mono (Nat.le_of_ble_eq_true rfl) (sR_goesRound_ok a1 M1 r h)) (fun v4 M3 => ?_)
      show pm_Im _ _ _ _ _ _ (59, [some (.ref 49), some (.int a1), some (.int a2)], [.int v4], M3)
      refine pm_iite (σ1 := (66, [some (.ref 49), some (.int a1), some (.int a2)], [], M3)) (σ2 := (62, [some (.ref 49), some (.int a1), some (.int a2)], [], M3)) rfl (fun _ => ?_) (fun _ => ?_)
      · refine pm_irun 1 (σ' := (67, [some (.ref 49), some (.int a1), some (.int a2)], [.int (0 : Int32)], M3)) rfl ?_
        exact pm_irI rfl rfl
      · refine pm_irun 2 (σ' := (67, [some (.ref 49), some (.int a1), some (.int a2)], [.int (1 : Int32)], M3)) rfl ?_
        exact pm_irI rfl rfl
    refine pm_isw (fun _ => ?_) (fun _ => ?_)
    · show pm_Im _ _ _ _ _ _ (68, [some (.ref 49), some (.int a1), some (.int a2)], [], M1)
      refine pm_irun 2 (σ' := (70, [some (.ref 49), some (.int a1), some (.int a2)], [.int a1, .ref 49], M1)) rfl ?_
      refine pm_icI (as := [.ref 49, .int a1]) (rest := []) rfl rfl rfl rfl (Nat.le_of_ble_eq_true rfl) rfl (fun r h => pm_Ev_mono (Nat.le_of_ble_eq_true rfl) (sR_reached_ok a1 M1 r h)) (fun v6 M5 => ?_)
      show pm_Im _ _ _ _ _ _ (73, [some (.ref 49), some (.int a1), some (.int a2)], [.int v6], M5)
      exact pm_irI rfl rfl
    show pm_Im _ _ _ _ _ _ (74, [some (.ref 49), some (.int a1), some (.int a2)], [], M1)
    refine pm_irun 1 (σ' := (76, [some (.ref 49), some (.int a1), some (.int a2)], [.int (-2 : Int32)], M1)) rfl ?_
    exact pm_irI rfl rfl
  · refine pm_irun 1 (σ' := (9, [some (.ref 49), some (.int a1), some (.int a2)], [.int (-2 : Int32)], M1)) rfl ?_
    exact pm_irI rfl rfl
def sTours_visitsOf (a1 : Int32) (a2 : Int32) (M : pm_M) : Option (Int64 × pm_M) := if pm_in ((a1 * (5 : Int32)) + a2) 10 then (some ((M.2 19 ((a1 * (5 : Int32)) + a2).toNatClampNeg), M)) else none
abbrev I_Tours_visitsOf (sh : Option (Int64 × pm_M)) (σ : pm_St) : Prop := pm_Im none (pm_Ev 0) pm_T36 (some .long) pm_rL sh σ
set_option maxHeartbeats 4000000 in
set_option maxRecDepth 100000 in
theorem sTours_visitsOf_ok (a1 : Int32) (a2 : Int32) (M : pm_M) : ∀ r, sTours_visitsOf a1 a2 M = some r → pm_Ev 1 36 [.ref 15, .int a1, .int a2] M (pm_rL r).1 (pm_rL r).2 := by
  refine pm_meth (al := [some (.ref 15), some (.int a1), some (.int a2)]) rfl rfl rfl rfl rfl ?_
  unfold sTours_visitsOf
  show I_Tours_visitsOf _ (0, [some (.ref 15), some (.int a1), some (.int a2)], [], M)
  refine pm_irun 7 (σ' := (9, [some (.ref 15), some (.int a1), some (.int a2)], [.int ((a1 * (5 : Int32)) + a2), .ref 19], M)) rfl ?_
  refine pm_igd (σ1 := (10, [some (.ref 15), some (.int a1), some (.int a2)], [.long (M.2 19 ((a1 * (5 : Int32)) + a2).toNatClampNeg)], M)) rfl (fun _ => ?_)
  exact pm_irL rfl rfl
def sC_visits (a1 : Int32) (a2 : Int32) (a3 : Int32) (M : pm_M) : Option (Int64 × pm_M) := pm_bd (sC_isClass a1 M) fun v2 M1 => if v2 = 0 then (some ((-4611686018427387904 : Int64), M1)) else (pm_bd (sNet_hasStation_1 a2 M1) fun v4 M3 => if v4 = 0 then (some ((-4611686018427387904 : Int64), M3)) else (if a3 < 0 then (some ((-4611686018427387904 : Int64), M3)) else (if a3 ≤ (1 : Int32) then (if pm_in a1 2 then (if ¬ (M3.1 18 a1.toNatClampNeg) = 0 then (if ¬ a3 = 0 then (pm_bd (sTours_demandOf a1 a2 M3) fun v6 M5 => some (v6, M5)) else (pm_bd (sTours_visitsOf a1 a2 M3) fun v8 M7 => some (v8, M7))) else (some ((-4611686018427387904 : Int64), M3))) else none) else (some ((-4611686018427387904 : Int64), M3)))))
abbrev I_C_visits (sh : Option (Int64 × pm_M)) (σ : pm_St) : Prop := pm_Im none (pm_Ev 1) pm_T69 (some .long) pm_rL sh σ
set_option maxHeartbeats 4000000 in
set_option maxRecDepth 100000 in
theorem sC_visits_ok (a1 : Int32) (a2 : Int32) (a3 : Int32) (M : pm_M) : ∀ r, sC_visits a1 a2 a3 M = some r → pm_Ev 2 69 [.ref 0, .int a1, .int a2, .int a3] M (pm_rL r).1 (pm_rL r).2 := by
  refine pm_meth (al := [some (.ref 0), some (.int a1), some (.int a2), some (.int a3)]) rfl rfl rfl rfl rfl ?_
  unfold sC_visits
  show I_C_visits _ (0, [some (.ref 0), some (.int a1), some (.int a2), some (.int a3)], [], M)
  refine pm_irun 1 (σ' := (1, [some (.ref 0), some (.int a1), some (.int a2), some (.int a3)], [.int a1], M)) rfl ?_
  refine pm_icI (as := [.int a1]) (rest := []) rfl rfl rfl rfl (Nat.le_of_ble_eq_true rfl) rfl (fun r h => pm_Ev_mono (Nat.le_of_ble_eq_true rfl) (sC_isClass_ok a1 M r h)) (fun v2 M1 => ?_)
  show pm_Im _ _ _ _ _ _ (4, [some (.ref 0), some (.int a1), some (.int a2), some (.int a3)], [.int v2], M1)
  refine pm_iite (σ1 := (27, [some (.ref 0), some (.int a1), some (.int a2), some (.int a3)], [], M1)) (σ2 := (7, [some (.ref 0), some (.int a1), some (.int a2), some (.int a3)], [], M1)) rfl (fun _ => ?_) (fun _ => ?_)
  · refine pm_irun 1 (σ' := (30, [some (.ref 0), some (.int a1), some (.int a2), some (.int a3)], [.long (-4611686018427387904 : Int64)], M1)) rfl ?_
    exact pm_irL rfl rfl
  · refine pm_irun 3 (σ' := (12, [some (.ref 0), some (.int a1), some (.int a2), some (.int a3)], [.int a2, .ref 1], M1)) rfl ?_
    refine pm_icI (as := [.ref 1, .int a2]) (rest := []) rfl rfl rfl rfl (Nat.le_of_ble_eq_true rfl) rfl (fun r h => pm_Ev_mono (Nat.le_of_ble_eq_true rfl) (sNet_hasStation_1_ok a2 M1 r h)) (fun v4 M3 => ?_)
    show pm_Im _ _ _ _ _ _ (15, [some (.ref 0), some (.int a1), some (.int a2), some (.int a3)], [.int v4], M3)
    refine pm_iite (σ1 := (27, [some (.ref 0), some (.int a1), some (.int a2), some (.int a3)], [], M3)) (σ2 := (18, [some (.ref 0), some (.int a1), some (.int a2), some (.int a3)], [], M3)) rfl (fun _ => ?_) (fun _ => ?_)
    · refine pm_irun 1 (σ' := (30, [some (.ref 0), some (.int a1), some (.int a2), some (.int a3)], [.long (-4611686018427387904 : Int64)], M3)) rfl ?_
      exact pm_irL rfl rfl
    · refine pm_irun 1 (σ' := (19, [some (.ref 0), some (.int a1), some (.int a2), some (.int a3)], [.int a3], M3)) rfl ?_
      refine pm_iite (σ1 := (27, [some (.ref 0), some (.int a1), some (.int a2), some (.int a3)], [], M3)) (σ2 := (22, [some (.ref 0), some (.int a1), some (.int a2), some (.int a3)], [], M3)) rfl (fun _ => ?_) (fun _ => ?_)
      · refine pm_irun 1 (σ' := (30, [some (.ref 0), some (.int a1), some (.int a2), some (.int a3)], [.long (-4611686018427387904 : Int64)], M3)) rfl ?_
        exact pm_irL rfl rfl
      · refine pm_irun 2 (σ' := (24, [some (.ref 0), some (.int a1), some (.int a2), some (.int a3)], [.int (1 : Int32), .int a3], M3)) rfl ?_
        refine pm_iite (σ1 := (31, [some (.ref 0), some (.int a1), some (.int a2), some (.int a3)], [], M3)) (σ2 := (27, [some (.ref 0), some (.int a1), some (.int a2), some (.int a3)], [], M3)) rfl (fun _ => ?_) (fun _ => ?_)
        · refine pm_irun 4 (σ' := (39, [some (.ref 0), some (.int a1), some (.int a2), some (.int a3)], [.int a1, .ref 18], M3)) rfl ?_
          refine pm_igd (σ1 := (40, [some (.ref 0), some (.int a1), some (.int a2), some (.int a3)], [.int (M3.1 18 a1.toNatClampNeg)], M3)) rfl (fun _ => ?_)
          refine pm_iite (σ1 := (47, [some (.ref 0), some (.int a1), some (.int a2), some (.int a3)], [], M3)) (σ2 := (43, [some (.ref 0), some (.int a1), some (.int a2), some (.int a3)], [], M3)) rfl (fun _ => ?_) (fun _ => ?_)
          · refine pm_irun 1 (σ' := (48, [some (.ref 0), some (.int a1), some (.int a2), some (.int a3)], [.int a3], M3)) rfl ?_
            refine pm_iite (σ1 := (63, [some (.ref 0), some (.int a1), some (.int a2), some (.int a3)], [], M3)) (σ2 := (51, [some (.ref 0), some (.int a1), some (.int a2), some (.int a3)], [], M3)) rfl (fun _ => ?_) (fun _ => ?_)
            · refine pm_irun 4 (σ' := (69, [some (.ref 0), some (.int a1), some (.int a2), some (.int a3)], [.int a2, .int a1, .ref 15], M3)) rfl ?_
              refine pm_icL (as := [.ref 15, .int a1, .int a2]) (rest := []) rfl rfl rfl rfl (Nat.le_of_ble_eq_true rfl) rfl (fun r h => pm_Ev_mono (Nat.le_of_ble_eq_true rfl) (sTours_demandOf_ok a1 a2 M3 r h)) (fun v6 M5 => ?_)
              show pm_Im _ _ _ _ _ _ (72, [some (.ref 0), some (.int a1), some (.int a2), some (.int a3)], [.long v6], M5)
              exact pm_irL rfl rfl
            · refine pm_irun 4 (σ' := (57, [some (.ref 0), some (.int a1), some (.int a2), some (.int a3)], [.int a2, .int a1, .ref 15], M3)) rfl ?_
              refine pm_icL (as := [.ref 15, .int a1, .int a2]) (rest := []) rfl rfl rfl rfl (Nat.le_of_ble_eq_true rfl) rfl (fun r h => pm_Ev_mono (Nat.le_of_ble_eq_true rfl) (sTours_visitsOf_ok a1 a2 M3 r h)) (fun v8 M7 => ?_)
              show pm_Im _ _ _ _ _ _ (60, [some (.ref 0), some (.int a1), some (.int a2), some (.int a3)], [.long v8], M7)
              refine pm_irun 1 (σ' := (72, [some (.ref 0), some (.int a1), some (.int a2), some (.int a3)], [.long v8], M7)) rfl ?_
              exact pm_irL rfl rfl
          · refine pm_irun 1 (σ' := (46, [some (.ref 0), some (.int a1), some (.int a2), some (.int a3)], [.long (-4611686018427387904 : Int64)], M3)) rfl ?_
            exact pm_irL rfl rfl
        · refine pm_irun 1 (σ' := (30, [some (.ref 0), some (.int a1), some (.int a2), some (.int a3)], [.long (-4611686018427387904 : Int64)], M3)) rfl ?_
          exact pm_irL rfl rfl
def sR_weights (a1 : Int32) (a2 : Int32) (M : pm_M) : Option (Int32 × pm_M) := pm_loop (fun _ _ _ => none) (fun (g1 : Int32 → Int32 → pm_M → Option (Int32 × pm_M)) x3 x4 M2 => if (M2.1 49 1) ≤ x4 then (some (x3, M2)) else (pm_bd (sR_routeAt a1 a2 x4 M2) fun v6 M5 => if pm_in v6 50 then (pm_lt ((x3 + (M5.1 54 v6.toNatClampNeg))) fun x7 => pm_lt ((x4 + (1 : Int32))) fun x8 => g1 x7 x8 M5) else none)) 1000000 (0 : Int32) (0 : Int32) M
abbrev I_R_weights (sh : Option (Int32 × pm_M)) (σ : pm_St) : Prop := pm_Im none (pm_Ev 1) pm_T141 (some .int) pm_rI sh σ
set_option maxHeartbeats 4000000 in
set_option maxRecDepth 100000 in
theorem sR_weights_ok (a1 : Int32) (a2 : Int32) (M : pm_M) : ∀ r, sR_weights a1 a2 M = some r → pm_Ev 2 141 [.ref 49, .int a1, .int a2] M (pm_rI r).1 (pm_rI r).2 := by
  refine pm_meth (al := [some (.ref 49), some (.int a1), some (.int a2), none, none]) rfl rfl rfl rfl rfl ?_
  unfold sR_weights
  show I_R_weights _ (0, [some (.ref 49), some (.int a1), some (.int a2), none, none], [], M)
  refine pm_irun 2 (σ' := (2, [some (.ref 49), some (.int a1), some (.int a2), some (.int (0 : Int32)), none], [], M)) rfl ?_
  refine pm_irun 2 (σ' := (5, [some (.ref 49), some (.int a1), some (.int a2), some (.int (0 : Int32)), some (.int (0 : Int32))], [], M)) rfl ?_
  refine pm_iloop (fun (g : Int32 → Int32 → pm_M → Option (Int32 × pm_M)) => ∀ (x3 : Int32) (x4 : Int32) (M2 : pm_M), I_R_weights (g x3 x4 M2) (5, [some (.ref 49), some (.int a1), some (.int a2), some (.int x3), some (.int x4)], [], M2)) (fun _ _ _ => pm_inone) (fun g1 hg1 x3 x4 M2 => ?_) 1000000 _ _ _
  show I_R_weights _ (5, [some (.ref 49), some (.int a1), some (.int a2), some (.int x3), some (.int x4)], [], M2)
  refine pm_irun 3 (σ' := (11, [some (.ref 49), some (.int a1), some (.int a2), some (.int x3), some (.int x4)], [.int (M2.1 49 1), .int x4], M2)) rfl ?_
  refine pm_iite (σ1 := (35, [some (.ref 49), some (.int a1), some (.int a2), some (.int x3), some (.int x4)], [], M2)) (σ2 := (14, [some (.ref 49), some (.int a1), some (.int a2), some (.int x3), some (.int x4)], [], M2)) rfl (fun _ => ?_) (fun _ => ?_)
  · refine pm_irun 1 (σ' := (36, [some (.ref 49), some (.int a1), some (.int a2), some (.int x3), some (.int x4)], [.int x3], M2)) rfl ?_
    exact pm_irI rfl rfl
  · refine pm_irun 6 (σ' := (23, [some (.ref 49), some (.int a1), some (.int a2), some (.int x3), some (.int x4)], [.int x4, .int a2, .int a1, .ref 54, .int x3], M2)) rfl ?_
    refine pm_icI (as := [.int a1, .int a2, .int x4]) (rest := [.ref 54, .int x3]) rfl rfl rfl rfl (Nat.le_of_ble_eq_true rfl) rfl (fun r h => pm_Ev_mono (Nat.le_of_ble_eq_true rfl) (sR_routeAt_ok a1 a2 x4 M2 r h)) (fun v6 M5 => ?_)
    show pm_Im _ _ _ _ _ _ (26, [some (.ref 49), some (.int a1), some (.int a2), some (.int x3), some (.int x4)], [.int v6, .ref 54, .int x3], M5)
    refine pm_igd (σ1 := (27, [some (.ref 49), some (.int a1), some (.int a2), some (.int x3), some (.int x4)], [.int (M5.1 54 v6.toNatClampNeg), .int x3], M5)) rfl (fun _ => ?_)
    refine pm_irun 2 (σ' := (29, [some (.ref 49), some (.int a1), some (.int a2), some (.int (x3 + (M5.1 54 v6.toNatClampNeg))), some (.int x4)], [], M5)) rfl ?_
    refine pm_ilt (fun y => (29, [some (.ref 49), some (.int a1), some (.int a2), some (.int y), some (.int x4)], [], M5)) (fun x7 => ?_)
    refine pm_irun 1 (σ' := (32, [some (.ref 49), some (.int a1), some (.int a2), some (.int x7), some (.int (x4 + (1 : Int32)))], [], M5)) rfl ?_
    refine pm_ilt (fun y => (32, [some (.ref 49), some (.int a1), some (.int a2), some (.int x7), some (.int y)], [], M5)) (fun x8 => ?_)
    refine pm_irun 1 (σ' := (5, [some (.ref 49), some (.int a1), some (.int a2), some (.int x7), some (.int x8)], [], M5)) rfl ?_
    exact hg1 _ _ _
def sR_entry (a1 : Int32) (a2 : Int32) (a3 : Int32) (M : pm_M) : Option (Int64 × pm_M) := if ¬ a2 = a3 then (pm_bd (sR_routeAt a1 a2 a3 M) fun v2 M1 => if pm_in v2 50 then (some ((-(M1.1 54 v2.toNatClampNeg)).toInt64, M1)) else none) else (pm_bd (sR_weights a1 a2 M) fun v4 M3 => pm_bd (sR_routeAt a1 a2 a2 M3) fun v6 M5 => if pm_in v6 50 then (some ((v4 - (M5.1 54 v6.toNatClampNeg)).toInt64, M5)) else none)
abbrev I_R_entry (sh : Option (Int64 × pm_M)) (σ : pm_St) : Prop := pm_Im none (pm_Ev 2) pm_T142 (some .long) pm_rL sh σ
set_option maxHeartbeats 4000000 in
set_option maxRecDepth 100000 in
theorem sR_entry_ok (a1 : Int32) (a2 : Int32) (a3 : Int32) (M : pm_M) : ∀ r, sR_entry a1 a2 a3 M = some r → pm_Ev 3 142 [.ref 49, .int a1, .int a2, .int a3] M (pm_rL r).1 (pm_rL r).2 := by
  refine pm_meth (al := [some (.ref 49), some (.int a1), some (.int a2), some (.int a3)]) rfl rfl rfl rfl rfl ?_
  unfold sR_entry
  show I_R_entry _ (0, [some (.ref 49), some (.int a1), some (.int a2), some (.int a3)], [], M)
  refine pm_irun 2 (σ' := (2, [some (.ref 49), some (.int a1), some (.int a2), some (.int a3)], [.int a3, .int a2], M)) rfl ?_
  refine pm_iite (σ1 := (27, [some (.ref 49), some (.int a1), some (.int a2), some (.int a3)], [], M)) (σ2 := (5, [some (.ref 49), some (.int a1), some (.int a2), some (.int a3)], [], M)) rfl (fun _ => ?_) (fun _ => ?_)
  · refine pm_irun 5 (σ' := (34, [some (.ref 49), some (.int a1), some (.int a2), some (.int a3)], [.int a3, .int a2, .int a1, .ref 54], M)) rfl ?_
    refine pm_icI (as := [.int a1, .int a2, .int a3]) (rest := [.ref 54]) rfl rfl rfl rfl (Nat.le_of_ble_eq_true rfl) rfl (fun r h => pm_Ev_mono (Nat.le_of_ble_eq_true rfl) (sR_routeAt_ok a1 a2 a3 M r h)) (fun v2 M1 => ?_)
    show pm_Im _ _ _ _ _ _ (37, [some (.ref 49), some (.int a1), some (.int a2), some (.int a3)], [.int v2, .ref 54], M1)
    refine pm_igd (σ1 := (38, [some (.ref 49), some (.int a1), some (.int a2), some (.int a3)], [.int (M1.1 54 v2.toNatClampNeg)], M1)) rfl (fun _ => ?_)
    refine pm_irun 2 (σ' := (40, [some (.ref 49), some (.int a1), some (.int a2), some (.int a3)], [.long (-(M1.1 54 v2.toNatClampNeg)).toInt64], M1)) rfl ?_
    exact pm_irL rfl rfl
  · refine pm_irun 3 (σ' := (8, [some (.ref 49), some (.int a1), some (.int a2), some (.int a3)], [.int a2, .int a1, .ref 49], M)) rfl ?_
    refine pm_icI (as := [.ref 49, .int a1, .int a2]) (rest := []) rfl rfl rfl rfl (Nat.le_of_ble_eq_true rfl) rfl (fun r h => pm_Ev_mono (Nat.le_of_ble_eq_true rfl) (sR_weights_ok a1 a2 M r h)) (fun v4 M3 => ?_)
    show pm_Im _ _ _ _ _ _ (11, [some (.ref 49), some (.int a1), some (.int a2), some (.int a3)], [.int v4], M3)
    refine pm_irun 5 (σ' := (18, [some (.ref 49), some (.int a1), some (.int a2), some (.int a3)], [.int a2, .int a2, .int a1, .ref 54, .int v4], M3)) rfl ?_
    refine pm_icI (as := [.int a1, .int a2, .int a2]) (rest := [.ref 54, .int v4]) rfl rfl rfl rfl (Nat.le_of_ble_eq_true rfl) rfl (fun r h => pm_Ev_mono (Nat.le_of_ble_eq_true rfl) (sR_routeAt_ok a1 a2 a2 M3 r h)) (fun v6 M5 => ?_)
    show pm_Im _ _ _ _ _ _ (21, [some (.ref 49), some (.int a1), some (.int a2), some (.int a3)], [.int v6, .ref 54, .int v4], M5)
    refine pm_igd (σ1 := (22, [some (.ref 49), some (.int a1), some (.int a2), some (.int a3)], [.int (M5.1 54 v6.toNatClampNeg), .int v4], M5)) rfl (fun _ => ?_)
    refine pm_irun 3 (σ' := (40, [some (.ref 49), some (.int a1), some (.int a2), some (.int a3)], [.long (v4 - (M5.1 54 v6.toNatClampNeg)).toInt64], M5)) rfl ?_
    exact pm_irL rfl rfl
def sR_determinant : Nat → Int32 → Int32 → Int32 → pm_M → Option (Int64 × pm_M)
  | 0, _, _, _, _ => none
  | k + 1, a1, a2, a3, M => if ¬ a2 = 0 then (pm_bd (sJInt_numberOfTrailingZeros a2 M) fun v2 M1 => pm_loop (fun _ _ _ _ => none) (fun (g3 : Int64 → Int32 → Int32 → pm_M → Option (Int64 × pm_M)) x5 x6 x7 M4 => if (M4.1 49 1) ≤ x7 then (some (x5, M4)) else (if ¬ ((a3 >>> (x7 &&& 31)) &&& (1 : Int32)) = 0 then (pm_bd (sR_entry a1 v2 x7 M4) fun v9 M8 => pm_jn (fun (x12 : Int64) (M11 : pm_M) => pm_lt ((-x6)) fun x13 => pm_lt ((x7 + (1 : Int32))) fun x14 => g3 x12 x13 x14 M11) fun (j10 : Int64 → pm_M → Option (Int64 × pm_M)) => if (lg_cmp v9 (0 : Int64)) = 0 then (j10 x5 M8) else (pm_bd (sR_entry a1 v2 x7 M8) fun v16 M15 => pm_bd (sR_determinant k a1 (a2 &&& (((1 : Int32) <<< (v2 &&& 31)) ^^^ (-1 : Int32))) (a3 &&& (((1 : Int32) <<< (x7 &&& 31)) ^^^ (-1 : Int32))) M15) fun v18 M17 => pm_lt ((x5 + ((x6.toInt64 * v16) * v18))) fun x19 => j10 x19 M17)) else (pm_lt ((x7 + (1 : Int32))) fun x20 => g3 x5 x6 x20 M4))) 1000000 (0 : Int64) (1 : Int32) (0 : Int32) M1) else (some ((1 : Int64), M))
set_option maxHeartbeats 4000000 in
set_option maxRecDepth 100000 in
theorem sR_determinant_ok : ∀ (k : Nat) (a1 : Int32) (a2 : Int32) (a3 : Int32) (M : pm_M), ∀ r, sR_determinant k a1 a2 a3 M = some r → pm_Ev (k + 4) 143 [.ref 49, .int a1, .int a2, .int a3] M (pm_rL r).1 (pm_rL r).2
  | 0, _, _, _, _, r, h => by cases h
  | k + 1, a1, a2, a3, M, r, h => by
    have ih := sR_determinant_ok k
    refine pm_meth (d := k + 4) (T := pm_T143) (ret := (some .long)) (rt := pm_rL) (sh := sR_determinant (k + 1) a1 a2 a3 M) (al := [some (.ref 49), some (.int a1), some (.int a2), some (.int a3), none, none, none, none, none]) rfl rfl rfl rfl rfl ?_ r h
    show pm_Im _ _ _ _ _ (if ¬ a2 = 0 then (pm_bd (sJInt_numberOfTrailingZeros a2 M) fun v2 M1 => pm_loop (fun _ _ _ _ => none) (fun (g3 : Int64 → Int32 → Int32 → pm_M → Option (Int64 × pm_M)) x5 x6 x7 M4 => if (M4.1 49 1) ≤ x7 then (some (x5, M4)) else (if ¬ ((a3 >>> (x7 &&& 31)) &&& (1 : Int32)) = 0 then (pm_bd (sR_entry a1 v2 x7 M4) fun v9 M8 => pm_jn (fun (x12 : Int64) (M11 : pm_M) => pm_lt ((-x6)) fun x13 => pm_lt ((x7 + (1 : Int32))) fun x14 => g3 x12 x13 x14 M11) fun (j10 : Int64 → pm_M → Option (Int64 × pm_M)) => if (lg_cmp v9 (0 : Int64)) = 0 then (j10 x5 M8) else (pm_bd (sR_entry a1 v2 x7 M8) fun v16 M15 => pm_bd (sR_determinant k a1 (a2 &&& (((1 : Int32) <<< (v2 &&& 31)) ^^^ (-1 : Int32))) (a3 &&& (((1 : Int32) <<< (x7 &&& 31)) ^^^ (-1 : Int32))) M15) fun v18 M17 => pm_lt ((x5 + ((x6.toInt64 * v16) * v18))) fun x19 => j10 x19 M17)) else (pm_lt ((x7 + (1 : Int32))) fun x20 => g3 x5 x6 x20 M4))) 1000000 (0 : Int64) (1 : Int32) (0 : Int32) M1) else (some ((1 : Int64), M))) _
    refine pm_irun 1 (σ' := (1, [some (.ref 49), some (.int a1), some (.int a2), some (.int a3), none, none, none, none, none], [.int a2], M)) rfl ?_
    refine pm_iite (σ1 := (6, [some (.ref 49), some (.int a1), some (.int a2), some (.int a3), none, none, none, none, none], [], M)) (σ2 := (4, [some (.ref 49), some (.int a1), some (.int a2), some (.int a3), none, none, none, none, none], [], M)) rfl (fun _ => ?_) (fun _ => ?_)
    · refine pm_irun 1 (σ' := (7, [some (.ref 49), some (.int a1), some (.int a2), some (.int a3), none, none, none, none, none], [.int a2], M)) rfl ?_
      refine pm_icI (as := [.int a2]) (rest := []) rfl rfl rfl rfl (Nat.le_of_ble_eq_true rfl) rfl (fun r h => pm_Ev_mono (by omega) (sJInt_numberOfTrailingZeros_ok a2 M r h)) (fun v2 M1 => ?_)
      show pm_Im _ _ _ _ _ _ (10, [some (.ref 49), some (.int a1), some (.int a2), some (.int a3), none, none, none, none, none], [.int v2], M1)
      refine pm_irun 1 (σ' := (12, [some (.ref 49), some (.int a1), some (.int a2), some (.int a3), some (.int v2), none, none, none, none], [], M1)) rfl ?_
      refine pm_irun 2 (σ' := (15, [some (.ref 49), some (.int a1), some (.int a2), some (.int a3), some (.int v2), some (.long (0 : Int64)), none, none, none], [], M1)) rfl ?_
      refine pm_irun 2 (σ' := (18, [some (.ref 49), some (.int a1), some (.int a2), some (.int a3), some (.int v2), some (.long (0 : Int64)), none, some (.int (1 : Int32)), none], [], M1)) rfl ?_
      refine pm_irun 2 (σ' := (21, [some (.ref 49), some (.int a1), some (.int a2), some (.int a3), some (.int v2), some (.long (0 : Int64)), none, some (.int (1 : Int32)), some (.int (0 : Int32))], [], M1)) rfl ?_
      refine pm_iloop (fun (g : Int64 → Int32 → Int32 → pm_M → Option (Int64 × pm_M)) => ∀ (x5 : Int64) (x6 : Int32) (x7 : Int32) (M4 : pm_M), pm_Im none (pm_Ev (k + 4)) pm_T143 (some .long) pm_rL (g x5 x6 x7 M4) (21, [some (.ref 49), some (.int a1), some (.int a2), some (.int a3), some (.int v2), some (.long x5), none, some (.int x6), some (.int x7)], [], M4)) (fun _ _ _ _ => pm_inone) (fun g3 hg3 x5 x6 x7 M4 => ?_) 1000000 _ _ _ _
      show pm_Im none (pm_Ev (k + 4)) pm_T143 (some .long) pm_rL _ (21, [some (.ref 49), some (.int a1), some (.int a2), some (.int a3), some (.int v2), some (.long x5), none, some (.int x6), some (.int x7)], [], M4)
      refine pm_irun 3 (σ' := (27, [some (.ref 49), some (.int a1), some (.int a2), some (.int a3), some (.int v2), some (.long x5), none, some (.int x6), some (.int x7)], [.int (M4.1 49 1), .int x7], M4)) rfl ?_
      refine pm_iite (σ1 := (107, [some (.ref 49), some (.int a1), some (.int a2), some (.int a3), some (.int v2), some (.long x5), none, some (.int x6), some (.int x7)], [], M4)) (σ2 := (30, [some (.ref 49), some (.int a1), some (.int a2), some (.int a3), some (.int v2), some (.long x5), none, some (.int x6), some (.int x7)], [], M4)) rfl (fun _ => ?_) (fun _ => ?_)
      · refine pm_irun 1 (σ' := (109, [some (.ref 49), some (.int a1), some (.int a2), some (.int a3), some (.int v2), some (.long x5), none, some (.int x6), some (.int x7)], [.long x5], M4)) rfl ?_
        exact pm_irL rfl rfl
      · refine pm_irun 5 (σ' := (36, [some (.ref 49), some (.int a1), some (.int a2), some (.int a3), some (.int v2), some (.long x5), none, some (.int x6), some (.int x7)], [.int ((a3 >>> (x7 &&& 31)) &&& (1 : Int32))], M4)) rfl ?_
        refine pm_iite (σ1 := (42, [some (.ref 49), some (.int a1), some (.int a2), some (.int a3), some (.int v2), some (.long x5), none, some (.int x6), some (.int x7)], [], M4)) (σ2 := (39, [some (.ref 49), some (.int a1), some (.int a2), some (.int a3), some (.int v2), some (.long x5), none, some (.int x6), some (.int x7)], [], M4)) rfl (fun _ => ?_) (fun _ => ?_)
        · refine pm_irun 4 (σ' := (48, [some (.ref 49), some (.int a1), some (.int a2), some (.int a3), some (.int v2), some (.long x5), none, some (.int x6), some (.int x7)], [.int x7, .int v2, .int a1, .ref 49], M4)) rfl ?_
          refine pm_icL (as := [.ref 49, .int a1, .int v2, .int x7]) (rest := []) rfl rfl rfl rfl (Nat.le_of_ble_eq_true rfl) rfl (fun r h => pm_Ev_mono (by omega) (sR_entry_ok a1 v2 x7 M4 r h)) (fun v9 M8 => ?_)
          show pm_Im _ _ _ _ _ _ (51, [some (.ref 49), some (.int a1), some (.int a2), some (.int a3), some (.int v2), some (.long x5), none, some (.int x6), some (.int x7)], [.long v9], M8)
          refine pm_irun 2 (σ' := (53, [some (.ref 49), some (.int a1), some (.int a2), some (.int a3), some (.int v2), some (.long x5), none, some (.int x6), some (.int x7)], [.int (lg_cmp v9 (0 : Int64))], M8)) rfl ?_
          refine pm_ijn (fun (g : Int64 → pm_M → Option (Int64 × pm_M)) => ∀ (x12 : Int64) (M11 : pm_M), pm_Im none (pm_Ev (k + 4)) pm_T143 (some .long) pm_rL (g x12 M11) (96, [some (.ref 49), some (.int a1), some (.int a2), some (.int a3), some (.int v2), some (.long x12), none, some (.int x6), some (.int x7)], [], M11)) (fun (x12 : Int64) (M11 : pm_M) => ?_) (fun j10 hj10 => ?_)
          · show pm_Im none (pm_Ev (k + 4)) pm_T143 (some .long) pm_rL _ (96, [some (.ref 49), some (.int a1), some (.int a2), some (.int a3), some (.int v2), some (.long x12), none, some (.int x6), some (.int x7)], [], M11)
            refine pm_irun 3 (σ' := (101, [some (.ref 49), some (.int a1), some (.int a2), some (.int a3), some (.int v2), some (.long x12), none, some (.int (-x6)), some (.int x7)], [], M11)) rfl ?_
            refine pm_ilt (fun y => (101, [some (.ref 49), some (.int a1), some (.int a2), some (.int a3), some (.int v2), some (.long x12), none, some (.int y), some (.int x7)], [], M11)) (fun x13 => ?_)
            refine pm_irun 1 (σ' := (104, [some (.ref 49), some (.int a1), some (.int a2), some (.int a3), some (.int v2), some (.long x12), none, some (.int x13), some (.int (x7 + (1 : Int32)))], [], M11)) rfl ?_
            refine pm_ilt (fun y => (104, [some (.ref 49), some (.int a1), some (.int a2), some (.int a3), some (.int v2), some (.long x12), none, some (.int x13), some (.int y)], [], M11)) (fun x14 => ?_)
            refine pm_irun 1 (σ' := (21, [some (.ref 49), some (.int a1), some (.int a2), some (.int a3), some (.int v2), some (.long x12), none, some (.int x13), some (.int x14)], [], M11)) rfl ?_
            exact hg3 _ _ _ _
          refine pm_iite (σ1 := (96, [some (.ref 49), some (.int a1), some (.int a2), some (.int a3), some (.int v2), some (.long x5), none, some (.int x6), some (.int x7)], [], M8)) (σ2 := (56, [some (.ref 49), some (.int a1), some (.int a2), some (.int a3), some (.int v2), some (.long x5), none, some (.int x6), some (.int x7)], [], M8)) rfl (fun _ => ?_) (fun _ => ?_)
          · exact hj10 _ _
          · refine pm_irun 7 (σ' := (67, [some (.ref 49), some (.int a1), some (.int a2), some (.int a3), some (.int v2), some (.long x5), none, some (.int x6), some (.int x7)], [.int x7, .int v2, .int a1, .ref 49, .long x6.toInt64, .long x5], M8)) rfl ?_
            refine pm_icL (as := [.ref 49, .int a1, .int v2, .int x7]) (rest := [.long x6.toInt64, .long x5]) rfl rfl rfl rfl (Nat.le_of_ble_eq_true rfl) rfl (fun r h => pm_Ev_mono (by omega) (sR_entry_ok a1 v2 x7 M8 r h)) (fun v16 M15 => ?_)
            show pm_Im _ _ _ _ _ _ (70, [some (.ref 49), some (.int a1), some (.int a2), some (.int a3), some (.int v2), some (.long x5), none, some (.int x6), some (.int x7)], [.long v16, .long x6.toInt64, .long x5], M15)
            refine pm_irun 8 (σ' := (79, [some (.ref 49), some (.int a1), some (.int a2), some (.int a3), some (.int v2), some (.long x5), none, some (.int x6), some (.int x7)], [.int (-1 : Int32), .int ((1 : Int32) <<< (v2 &&& 31)), .int a2, .int a1, .ref 49, .long (x6.toInt64 * v16), .long x5], M15)) rfl ?_
            refine pm_irun 8 (σ' := (88, [some (.ref 49), some (.int a1), some (.int a2), some (.int a3), some (.int v2), some (.long x5), none, some (.int x6), some (.int x7)], [.int (((1 : Int32) <<< (x7 &&& 31)) ^^^ (-1 : Int32)), .int a3, .int (a2 &&& (((1 : Int32) <<< (v2 &&& 31)) ^^^ (-1 : Int32))), .int a1, .ref 49, .long (x6.toInt64 * v16), .long x5], M15)) rfl ?_
            refine pm_irun 1 (σ' := (89, [some (.ref 49), some (.int a1), some (.int a2), some (.int a3), some (.int v2), some (.long x5), none, some (.int x6), some (.int x7)], [.int (a3 &&& (((1 : Int32) <<< (x7 &&& 31)) ^^^ (-1 : Int32))), .int (a2 &&& (((1 : Int32) <<< (v2 &&& 31)) ^^^ (-1 : Int32))), .int a1, .ref 49, .long (x6.toInt64 * v16), .long x5], M15)) rfl ?_
            refine pm_icL (as := [.ref 49, .int a1, .int (a2 &&& (((1 : Int32) <<< (v2 &&& 31)) ^^^ (-1 : Int32))), .int (a3 &&& (((1 : Int32) <<< (x7 &&& 31)) ^^^ (-1 : Int32)))]) (rest := [.long (x6.toInt64 * v16), .long x5]) rfl rfl rfl rfl (Nat.le_of_ble_eq_true rfl) rfl (fun r h => ih a1 (a2 &&& (((1 : Int32) <<< (v2 &&& 31)) ^^^ (-1 : Int32))) (a3 &&& (((1 : Int32) <<< (x7 &&& 31)) ^^^ (-1 : Int32))) M15 r h) (fun v18 M17 => ?_)
            show pm_Im _ _ _ _ _ _ (92, [some (.ref 49), some (.int a1), some (.int a2), some (.int a3), some (.int v2), some (.long x5), none, some (.int x6), some (.int x7)], [.long v18, .long (x6.toInt64 * v16), .long x5], M17)
            refine pm_irun 3 (σ' := (96, [some (.ref 49), some (.int a1), some (.int a2), some (.int a3), some (.int v2), some (.long (x5 + ((x6.toInt64 * v16) * v18))), none, some (.int x6), some (.int x7)], [], M17)) rfl ?_
            refine pm_ilt (fun y => (96, [some (.ref 49), some (.int a1), some (.int a2), some (.int a3), some (.int v2), some (.long y), none, some (.int x6), some (.int x7)], [], M17)) (fun x19 => ?_)
            exact hj10 _ _
        · refine pm_irun 2 (σ' := (104, [some (.ref 49), some (.int a1), some (.int a2), some (.int a3), some (.int v2), some (.long x5), none, some (.int x6), some (.int (x7 + (1 : Int32)))], [], M4)) rfl ?_
          refine pm_ilt (fun y => (104, [some (.ref 49), some (.int a1), some (.int a2), some (.int a3), some (.int v2), some (.long x5), none, some (.int x6), some (.int y)], [], M4)) (fun x20 => ?_)
          refine pm_irun 1 (σ' := (21, [some (.ref 49), some (.int a1), some (.int a2), some (.int a3), some (.int v2), some (.long x5), none, some (.int x6), some (.int x20)], [], M4)) rfl ?_
          exact hg3 _ _ _ _
    · refine pm_irun 1 (σ' := (5, [some (.ref 49), some (.int a1), some (.int a2), some (.int a3), none, none, none, none, none], [.long (1 : Int64)], M)) rfl ?_
      exact pm_irL rfl rfl
def sR_common (a1 : Int64) (a2 : Int64) (M : pm_M) : Option (Int64 × pm_M) := pm_jn (fun (q3 : Int64) (M2 : pm_M) => pm_jn (fun (q6 : Int64) (M5 : pm_M) => pm_loop (fun _ _ _ => none) (fun (g7 : Int64 → Int64 → pm_M → Option (Int64 × pm_M)) x9 x10 M8 => if (lg_cmp x10 (0 : Int64)) = 0 then (some (x9, M8)) else (if ¬ x10 = 0 then (pm_lt ((x9 - x9 / x10 * x10)) fun x11 => g7 x10 x11 M8) else none)) 1000000 q3 q6 M5) fun (j4 : Int64 → pm_M → Option (Int64 × pm_M)) => if 0 ≤ (lg_cmp a2 (0 : Int64)) then (j4 a2 M2) else (j4 ((-a2)) M2)) fun (j1 : Int64 → pm_M → Option (Int64 × pm_M)) => if 0 ≤ (lg_cmp a1 (0 : Int64)) then (j1 a1 M) else (j1 ((-a1)) M)
abbrev I_R_common (sh : Option (Int64 × pm_M)) (σ : pm_St) : Prop := pm_Im none (pm_Ev 0) pm_T144 (some .long) pm_rL sh σ
set_option maxHeartbeats 4000000 in
set_option maxRecDepth 100000 in
theorem sR_common_ok (a1 : Int64) (a2 : Int64) (M : pm_M) : ∀ r, sR_common a1 a2 M = some r → pm_Ev 1 144 [.long a1, .long a2] M (pm_rL r).1 (pm_rL r).2 := by
  refine pm_meth (al := [some (.long a1), none, some (.long a2), none, none, none, none, none, none, none]) rfl rfl rfl rfl rfl ?_
  unfold sR_common
  show I_R_common _ (0, [some (.long a1), none, some (.long a2), none, none, none, none, none, none, none], [], M)
  refine pm_irun 3 (σ' := (3, [some (.long a1), none, some (.long a2), none, none, none, none, none, none, none], [.int (lg_cmp a1 (0 : Int64))], M)) rfl ?_
  refine pm_ijn (fun (g : Int64 → pm_M → Option (Int64 × pm_M)) => ∀ (q3 : Int64) (M2 : pm_M), I_R_common (g q3 M2) (12, [none, none, some (.long a2), none, none, none, none, none, none, none], [.long q3], M2)) (fun (q3 : Int64) (M2 : pm_M) => ?_) (fun j1 hj1 => ?_)
  · show I_R_common _ (12, [none, none, some (.long a2), none, none, none, none, none, none, none], [.long q3], M2)
    refine pm_irun 1 (σ' := (14, [none, none, some (.long a2), none, some (.long q3), none, none, none, none, none], [], M2)) rfl ?_
    refine pm_irun 3 (σ' := (17, [none, none, some (.long a2), none, some (.long q3), none, none, none, none, none], [.int (lg_cmp a2 (0 : Int64))], M2)) rfl ?_
    refine pm_ijn (fun (g : Int64 → pm_M → Option (Int64 × pm_M)) => ∀ (q6 : Int64) (M5 : pm_M), I_R_common (g q6 M5) (26, [none, none, none, none, some (.long q3), none, none, none, none, none], [.long q6], M5)) (fun (q6 : Int64) (M5 : pm_M) => ?_) (fun j4 hj4 => ?_)
    · show I_R_common _ (26, [none, none, none, none, some (.long q3), none, none, none, none, none], [.long q6], M5)
      refine pm_irun 1 (σ' := (28, [none, none, none, none, some (.long q3), none, some (.long q6), none, none, none], [], M5)) rfl ?_
      refine pm_iloop (fun (g : Int64 → Int64 → pm_M → Option (Int64 × pm_M)) => ∀ (x9 : Int64) (x10 : Int64) (M8 : pm_M), I_R_common (g x9 x10 M8) (28, [none, none, none, none, some (.long x9), none, some (.long x10), none, none, none], [], M8)) (fun _ _ _ => pm_inone) (fun g7 hg7 x9 x10 M8 => ?_) 1000000 _ _ _
      show I_R_common _ (28, [none, none, none, none, some (.long x9), none, some (.long x10), none, none, none], [], M8)
      refine pm_irun 3 (σ' := (32, [none, none, none, none, some (.long x9), none, some (.long x10), none, none, none], [.int (lg_cmp x10 (0 : Int64))], M8)) rfl ?_
      refine pm_iite (σ1 := (53, [none, none, none, none, some (.long x9), none, some (.long x10), none, none, none], [], M8)) (σ2 := (35, [none, none, none, none, some (.long x9), none, some (.long x10), none, none, none], [], M8)) rfl (fun _ => ?_) (fun _ => ?_)
      · refine pm_irun 1 (σ' := (55, [none, none, none, none, some (.long x9), none, some (.long x10), none, none, none], [.long x9], M8)) rfl ?_
        exact pm_irL rfl rfl
      · refine pm_irun 2 (σ' := (39, [none, none, none, none, some (.long x9), none, some (.long x10), none, none, none], [.long x10, .long x9], M8)) rfl ?_
        refine pm_igd (σ1 := (40, [none, none, none, none, some (.long x9), none, some (.long x10), none, none, none], [.long (x9 - x9 / x10 * x10)], M8)) rfl (fun _ => ?_)
        refine pm_irun 1 (σ' := (42, [none, none, none, none, some (.long x9), none, some (.long x10), none, some (.long (x9 - x9 / x10 * x10)), none], [], M8)) rfl ?_
        refine pm_ilt (fun y => (42, [none, none, none, none, some (.long x9), none, some (.long x10), none, some (.long y), none], [], M8)) (fun x11 => ?_)
        refine pm_irun 2 (σ' := (46, [none, none, none, none, some (.long x10), none, some (.long x10), none, some (.long x11), none], [], M8)) rfl ?_
        refine pm_irun 2 (σ' := (50, [none, none, none, none, some (.long x10), none, some (.long x11), none, some (.long x11), none], [], M8)) rfl ?_
        refine pm_irun 1 (σ' := (28, [none, none, none, none, some (.long x10), none, some (.long x11), none, some (.long x11), none], [], M8)) rfl ?_
        refine pm_iwk (al' := [none, none, none, none, some (.long x10), none, some (.long x11), none, none, none]) (pm_wkS (pm_wkS (pm_wkS (pm_wkS (pm_wkS (pm_wkS (pm_wkS (pm_wkS (pm_wkN (pm_wkS pm_wk0)))))))))) ?_
        exact hg7 _ _ _
    refine pm_iite (σ1 := (25, [none, none, some (.long a2), none, some (.long q3), none, none, none, none, none], [], M2)) (σ2 := (20, [none, none, some (.long a2), none, some (.long q3), none, none, none, none, none], [], M2)) rfl (fun _ => ?_) (fun _ => ?_)
    · refine pm_irun 1 (σ' := (26, [none, none, some (.long a2), none, some (.long q3), none, none, none, none, none], [.long a2], M2)) rfl ?_
      refine pm_iwk (al' := [none, none, none, none, some (.long q3), none, none, none, none, none]) (pm_wkS (pm_wkS (pm_wkN (pm_wkS (pm_wkS (pm_wkS (pm_wkS (pm_wkS (pm_wkS (pm_wkS pm_wk0)))))))))) ?_
      exact hj4 _ _
    · refine pm_irun 3 (σ' := (26, [none, none, some (.long a2), none, some (.long q3), none, none, none, none, none], [.long (-a2)], M2)) rfl ?_
      refine pm_iwk (al' := [none, none, none, none, some (.long q3), none, none, none, none, none]) (pm_wkS (pm_wkS (pm_wkN (pm_wkS (pm_wkS (pm_wkS (pm_wkS (pm_wkS (pm_wkS (pm_wkS pm_wk0)))))))))) ?_
      exact hj4 _ _
  refine pm_iite (σ1 := (11, [some (.long a1), none, some (.long a2), none, none, none, none, none, none, none], [], M)) (σ2 := (6, [some (.long a1), none, some (.long a2), none, none, none, none, none, none, none], [], M)) rfl (fun _ => ?_) (fun _ => ?_)
  · refine pm_irun 1 (σ' := (12, [some (.long a1), none, some (.long a2), none, none, none, none, none, none, none], [.long a1], M)) rfl ?_
    refine pm_iwk (al' := [none, none, some (.long a2), none, none, none, none, none, none, none]) (pm_wkN (pm_wkS (pm_wkS (pm_wkS (pm_wkS (pm_wkS (pm_wkS (pm_wkS (pm_wkS (pm_wkS pm_wk0)))))))))) ?_
    exact hj1 _ _
  · refine pm_irun 3 (σ' := (12, [some (.long a1), none, some (.long a2), none, none, none, none, none, none, none], [.long (-a1)], M)) rfl ?_
    refine pm_iwk (al' := [none, none, some (.long a2), none, none, none, none, none, none, none]) (pm_wkN (pm_wkS (pm_wkS (pm_wkS (pm_wkS (pm_wkS (pm_wkS (pm_wkS (pm_wkS (pm_wkS pm_wk0)))))))))) ?_
    exact hj1 _ _
def sR_visit (a1 : Int32) (M : pm_M) : Option (pm_M) := pm_bd (sR_reached a1 M) fun v2 M1 => pm_loop (fun _ _ _ => none) (fun (g3 : Int64 → Int32 → pm_M → Option (pm_M)) x5 x6 M4 => if (5 : Int32) ≤ x6 then (pm_loop (fun _ _ => none) (fun (g7 : Int32 → pm_M → Option (pm_M)) x9 M8 => if (5 : Int32) ≤ x9 then (some M8) else (if (lg_cmp x5 (1 : Int64)) ≤ 0 then (some M8) else (if pm_in (((5 : Int32) * a1) + x9) 10 then (if ¬ x5 = 0 then (if pm_in (((5 : Int32) * a1) + x9) 10 then (pm_lt (pm_sL M8 59 (((5 : Int32) * a1) + x9).toNatClampNeg (((M8.2 59 (((5 : Int32) * a1) + x9).toNatClampNeg) / x5))) fun M10 => pm_lt ((x9 + (1 : Int32))) fun x11 => g7 x11 M10) else none) else none) else none))) 1000000 (0 : Int32) M4) else (if pm_in (((5 : Int32) * a1) + x6) 10 then (pm_lt (pm_sL M4 59 (((5 : Int32) * a1) + x6).toNatClampNeg (0 : Int64)) fun M12 => if (M12.1 49 1) ≤ x6 then (pm_lt ((x6 + (1 : Int32))) fun x13 => g3 x5 x13 M12) else (if ¬ ((v2 >>> (x6 &&& 31)) &&& (1 : Int32)) = 0 then (pm_lt ((v2 &&& (((1 : Int32) <<< (x6 &&& 31)) ^^^ (-1 : Int32)))) fun x14 => pm_bd (sR_weights a1 x6 M12) fun v16 M15 => pm_bd (sR_determinant 8 a1 x14 x14 M15) fun v18 M17 => if pm_in (((5 : Int32) * a1) + x6) 10 then (pm_lt (pm_sL M17 59 (((5 : Int32) * a1) + x6).toNatClampNeg ((v16.toInt64 * v18))) fun M19 => if pm_in (((5 : Int32) * a1) + x6) 10 then (pm_bd (sR_common x5 (M19.2 59 (((5 : Int32) * a1) + x6).toNatClampNeg) M19) fun v21 M20 => pm_lt ((x6 + (1 : Int32))) fun x22 => g3 v21 x22 M20) else none) else none) else (pm_lt ((x6 + (1 : Int32))) fun x23 => g3 x5 x23 M12))) else none)) 1000000 (0 : Int64) (0 : Int32) M1
abbrev I_R_visit (sh : Option (pm_M)) (σ : pm_St) : Prop := pm_Im none (pm_Ev 12) pm_T145 none pm_rV sh σ
set_option maxHeartbeats 4000000 in
set_option maxRecDepth 100000 in
theorem sR_visit_ok (a1 : Int32) (M : pm_M) : ∀ r, sR_visit a1 M = some r → pm_Ev 13 145 [.ref 49, .int a1] M (pm_rV r).1 (pm_rV r).2 := by
  refine pm_meth (al := [some (.ref 49), some (.int a1), none, none, none, none, none]) rfl rfl rfl rfl rfl ?_
  unfold sR_visit
  show I_R_visit _ (0, [some (.ref 49), some (.int a1), none, none, none, none, none], [], M)
  refine pm_irun 2 (σ' := (2, [some (.ref 49), some (.int a1), none, none, none, none, none], [.int a1, .ref 49], M)) rfl ?_
  refine pm_icI (as := [.ref 49, .int a1]) (rest := []) rfl rfl rfl rfl (Nat.le_of_ble_eq_true rfl) rfl (fun r h => pm_Ev_mono (Nat.le_of_ble_eq_true rfl) (sR_reached_ok a1 M r h)) (fun v2 M1 => ?_)
  show pm_Im _ _ _ _ _ _ (5, [some (.ref 49), some (.int a1), none, none, none, none, none], [.int v2], M1)
  refine pm_irun 1 (σ' := (6, [some (.ref 49), some (.int a1), some (.int v2), none, none, none, none], [], M1)) rfl ?_
  refine pm_irun 2 (σ' := (8, [some (.ref 49), some (.int a1), some (.int v2), some (.long (0 : Int64)), none, none, none], [], M1)) rfl ?_
  refine pm_irun 2 (σ' := (11, [some (.ref 49), some (.int a1), some (.int v2), some (.long (0 : Int64)), none, some (.int (0 : Int32)), none], [], M1)) rfl ?_
  refine pm_iloop (fun (g : Int64 → Int32 → pm_M → Option (pm_M)) => ∀ (x5 : Int64) (x6 : Int32) (M4 : pm_M), I_R_visit (g x5 x6 M4) (11, [some (.ref 49), some (.int a1), some (.int v2), some (.long x5), none, some (.int x6), none], [], M4)) (fun _ _ _ => pm_inone) (fun g3 hg3 x5 x6 M4 => ?_) 1000000 _ _ _
  show I_R_visit _ (11, [some (.ref 49), some (.int a1), some (.int v2), some (.long x5), none, some (.int x6), none], [], M4)
  refine pm_irun 2 (σ' := (14, [some (.ref 49), some (.int a1), some (.int v2), some (.long x5), none, some (.int x6), none], [.int (5 : Int32), .int x6], M4)) rfl ?_
  refine pm_iite (σ1 := (111, [some (.ref 49), some (.int a1), some (.int v2), some (.long x5), none, some (.int x6), none], [], M4)) (σ2 := (17, [some (.ref 49), some (.int a1), some (.int v2), some (.long x5), none, some (.int x6), none], [], M4)) rfl (fun _ => ?_) (fun _ => ?_)
  · refine pm_irun 2 (σ' := (114, [some (.ref 49), some (.int a1), some (.int v2), some (.long x5), none, some (.int (0 : Int32)), none], [], M4)) rfl ?_
    refine pm_iwk (al' := [some (.ref 49), some (.int a1), none, some (.long x5), none, some (.int (0 : Int32)), none]) (pm_wkS (pm_wkS (pm_wkN (pm_wkS (pm_wkS (pm_wkS (pm_wkS pm_wk0))))))) ?_
    refine pm_iloop (fun (g : Int32 → pm_M → Option (pm_M)) => ∀ (x9 : Int32) (M8 : pm_M), I_R_visit (g x9 M8) (114, [some (.ref 49), some (.int a1), none, some (.long x5), none, some (.int x9), none], [], M8)) (fun _ _ => pm_inone) (fun g7 hg7 x9 M8 => ?_) 1000000 _ _
    show I_R_visit _ (114, [some (.ref 49), some (.int a1), none, some (.long x5), none, some (.int x9), none], [], M8)
    refine pm_irun 2 (σ' := (117, [some (.ref 49), some (.int a1), none, some (.long x5), none, some (.int x9), none], [.int (5 : Int32), .int x9], M8)) rfl ?_
    refine pm_iite (σ1 := (147, [some (.ref 49), some (.int a1), none, some (.long x5), none, some (.int x9), none], [], M8)) (σ2 := (120, [some (.ref 49), some (.int a1), none, some (.long x5), none, some (.int x9), none], [], M8)) rfl (fun _ => ?_) (fun _ => ?_)
    · exact pm_irV rfl rfl
    · refine pm_irun 3 (σ' := (123, [some (.ref 49), some (.int a1), none, some (.long x5), none, some (.int x9), none], [.int (lg_cmp x5 (1 : Int64))], M8)) rfl ?_
      refine pm_iite (σ1 := (147, [some (.ref 49), some (.int a1), none, some (.long x5), none, some (.int x9), none], [], M8)) (σ2 := (126, [some (.ref 49), some (.int a1), none, some (.long x5), none, some (.int x9), none], [], M8)) rfl (fun _ => ?_) (fun _ => ?_)
      · exact pm_irV rfl rfl
      · refine pm_irun 8 (σ' := (137, [some (.ref 49), some (.int a1), none, some (.long x5), none, some (.int x9), none], [.int (((5 : Int32) * a1) + x9), .ref 59, .int (((5 : Int32) * a1) + x9), .ref 59], M8)) rfl ?_
        refine pm_igd (σ1 := (138, [some (.ref 49), some (.int a1), none, some (.long x5), none, some (.int x9), none], [.long (M8.2 59 (((5 : Int32) * a1) + x9).toNatClampNeg), .int (((5 : Int32) * a1) + x9), .ref 59], M8)) rfl (fun _ => ?_)
        refine pm_irun 1 (σ' := (139, [some (.ref 49), some (.int a1), none, some (.long x5), none, some (.int x9), none], [.long x5, .long (M8.2 59 (((5 : Int32) * a1) + x9).toNatClampNeg), .int (((5 : Int32) * a1) + x9), .ref 59], M8)) rfl ?_
        refine pm_igd (σ1 := (140, [some (.ref 49), some (.int a1), none, some (.long x5), none, some (.int x9), none], [.long ((M8.2 59 (((5 : Int32) * a1) + x9).toNatClampNeg) / x5), .int (((5 : Int32) * a1) + x9), .ref 59], M8)) rfl (fun _ => ?_)
        refine pm_igd (σ1 := (141, [some (.ref 49), some (.int a1), none, some (.long x5), none, some (.int x9), none], [], (pm_sL M8 59 (((5 : Int32) * a1) + x9).toNatClampNeg (((M8.2 59 (((5 : Int32) * a1) + x9).toNatClampNeg) / x5))))) rfl (fun _ => ?_)
        refine pm_ilt (fun y => (141, [some (.ref 49), some (.int a1), none, some (.long x5), none, some (.int x9), none], [], y)) (fun M10 => ?_)
        refine pm_irun 1 (σ' := (144, [some (.ref 49), some (.int a1), none, some (.long x5), none, some (.int (x9 + (1 : Int32))), none], [], M10)) rfl ?_
        refine pm_ilt (fun y => (144, [some (.ref 49), some (.int a1), none, some (.long x5), none, some (.int y), none], [], M10)) (fun x11 => ?_)
        refine pm_irun 1 (σ' := (114, [some (.ref 49), some (.int a1), none, some (.long x5), none, some (.int x11), none], [], M10)) rfl ?_
        exact hg7 _ _
  · refine pm_irun 8 (σ' := (28, [some (.ref 49), some (.int a1), some (.int v2), some (.long x5), none, some (.int x6), none], [.long (0 : Int64), .int (((5 : Int32) * a1) + x6), .ref 59], M4)) rfl ?_
    refine pm_igd (σ1 := (29, [some (.ref 49), some (.int a1), some (.int v2), some (.long x5), none, some (.int x6), none], [], (pm_sL M4 59 (((5 : Int32) * a1) + x6).toNatClampNeg (0 : Int64)))) rfl (fun _ => ?_)
    refine pm_ilt (fun y => (29, [some (.ref 49), some (.int a1), some (.int v2), some (.long x5), none, some (.int x6), none], [], y)) (fun M12 => ?_)
    refine pm_irun 3 (σ' := (35, [some (.ref 49), some (.int a1), some (.int v2), some (.long x5), none, some (.int x6), none], [.int (M12.1 49 1), .int x6], M12)) rfl ?_
    refine pm_iite (σ1 := (105, [some (.ref 49), some (.int a1), some (.int v2), some (.long x5), none, some (.int x6), none], [], M12)) (σ2 := (38, [some (.ref 49), some (.int a1), some (.int v2), some (.long x5), none, some (.int x6), none], [], M12)) rfl (fun _ => ?_) (fun _ => ?_)
    · refine pm_irun 1 (σ' := (108, [some (.ref 49), some (.int a1), some (.int v2), some (.long x5), none, some (.int (x6 + (1 : Int32))), none], [], M12)) rfl ?_
      refine pm_ilt (fun y => (108, [some (.ref 49), some (.int a1), some (.int v2), some (.long x5), none, some (.int y), none], [], M12)) (fun x13 => ?_)
      refine pm_irun 1 (σ' := (11, [some (.ref 49), some (.int a1), some (.int v2), some (.long x5), none, some (.int x13), none], [], M12)) rfl ?_
      exact hg3 _ _ _
    · refine pm_irun 5 (σ' := (44, [some (.ref 49), some (.int a1), some (.int v2), some (.long x5), none, some (.int x6), none], [.int ((v2 >>> (x6 &&& 31)) &&& (1 : Int32))], M12)) rfl ?_
      refine pm_iite (σ1 := (50, [some (.ref 49), some (.int a1), some (.int v2), some (.long x5), none, some (.int x6), none], [], M12)) (σ2 := (47, [some (.ref 49), some (.int a1), some (.int v2), some (.long x5), none, some (.int x6), none], [], M12)) rfl (fun _ => ?_) (fun _ => ?_)
      · refine pm_irun 8 (σ' := (60, [some (.ref 49), some (.int a1), some (.int v2), some (.long x5), none, some (.int x6), some (.int (v2 &&& (((1 : Int32) <<< (x6 &&& 31)) ^^^ (-1 : Int32))))], [], M12)) rfl ?_
        refine pm_ilt (fun y => (60, [some (.ref 49), some (.int a1), some (.int v2), some (.long x5), none, some (.int x6), some (.int y)], [], M12)) (fun x14 => ?_)
        refine pm_irun 8 (σ' := (71, [some (.ref 49), some (.int a1), some (.int v2), some (.long x5), none, some (.int x6), some (.int x14)], [.ref 49, .int (((5 : Int32) * a1) + x6), .ref 59], M12)) rfl ?_
        refine pm_irun 2 (σ' := (74, [some (.ref 49), some (.int a1), some (.int v2), some (.long x5), none, some (.int x6), some (.int x14)], [.int x6, .int a1, .ref 49, .int (((5 : Int32) * a1) + x6), .ref 59], M12)) rfl ?_
        refine pm_icI (as := [.ref 49, .int a1, .int x6]) (rest := [.int (((5 : Int32) * a1) + x6), .ref 59]) rfl rfl rfl rfl (Nat.le_of_ble_eq_true rfl) rfl (fun r h => pm_Ev_mono (Nat.le_of_ble_eq_true rfl) (sR_weights_ok a1 x6 M12 r h)) (fun v16 M15 => ?_)
        show pm_Im _ _ _ _ _ _ (77, [some (.ref 49), some (.int a1), some (.int v2), some (.long x5), none, some (.int x6), some (.int x14)], [.int v16, .int (((5 : Int32) * a1) + x6), .ref 59], M15)
        refine pm_irun 5 (σ' := (84, [some (.ref 49), some (.int a1), some (.int v2), some (.long x5), none, some (.int x6), some (.int x14)], [.int x14, .int x14, .int a1, .ref 49, .long v16.toInt64, .int (((5 : Int32) * a1) + x6), .ref 59], M15)) rfl ?_
        refine pm_icL (as := [.ref 49, .int a1, .int x14, .int x14]) (rest := [.long v16.toInt64, .int (((5 : Int32) * a1) + x6), .ref 59]) rfl rfl rfl rfl (Nat.le_of_ble_eq_true rfl) rfl (fun r h => pm_Ev_mono (Nat.le_of_ble_eq_true rfl) (sR_determinant_ok 8 a1 x14 x14 M15 r h)) (fun v18 M17 => ?_)
        show pm_Im _ _ _ _ _ _ (87, [some (.ref 49), some (.int a1), some (.int v2), some (.long x5), none, some (.int x6), some (.int x14)], [.long v18, .long v16.toInt64, .int (((5 : Int32) * a1) + x6), .ref 59], M17)
        refine pm_irun 1 (σ' := (88, [some (.ref 49), some (.int a1), some (.int v2), some (.long x5), none, some (.int x6), some (.int x14)], [.long (v16.toInt64 * v18), .int (((5 : Int32) * a1) + x6), .ref 59], M17)) rfl ?_
        refine pm_igd (σ1 := (89, [some (.ref 49), some (.int a1), some (.int v2), some (.long x5), none, some (.int x6), some (.int x14)], [], (pm_sL M17 59 (((5 : Int32) * a1) + x6).toNatClampNeg ((v16.toInt64 * v18))))) rfl (fun _ => ?_)
        refine pm_ilt (fun y => (89, [some (.ref 49), some (.int a1), some (.int v2), some (.long x5), none, some (.int x6), some (.int x14)], [], y)) (fun M19 => ?_)
        refine pm_irun 8 (σ' := (100, [some (.ref 49), some (.int a1), some (.int v2), some (.long x5), none, some (.int x6), some (.int x14)], [.int (((5 : Int32) * a1) + x6), .ref 59, .long x5], M19)) rfl ?_
        refine pm_igd (σ1 := (101, [some (.ref 49), some (.int a1), some (.int v2), some (.long x5), none, some (.int x6), some (.int x14)], [.long (M19.2 59 (((5 : Int32) * a1) + x6).toNatClampNeg), .long x5], M19)) rfl (fun _ => ?_)
        refine pm_icL (as := [.long x5, .long (M19.2 59 (((5 : Int32) * a1) + x6).toNatClampNeg)]) (rest := []) rfl rfl rfl rfl (Nat.le_of_ble_eq_true rfl) rfl (fun r h => pm_Ev_mono (Nat.le_of_ble_eq_true rfl) (sR_common_ok x5 (M19.2 59 (((5 : Int32) * a1) + x6).toNatClampNeg) M19 r h)) (fun v21 M20 => ?_)
        show pm_Im _ _ _ _ _ _ (104, [some (.ref 49), some (.int a1), some (.int v2), some (.long x5), none, some (.int x6), some (.int x14)], [.long v21], M20)
        refine pm_irun 1 (σ' := (105, [some (.ref 49), some (.int a1), some (.int v2), some (.long v21), none, some (.int x6), some (.int x14)], [], M20)) rfl ?_
        refine pm_irun 1 (σ' := (108, [some (.ref 49), some (.int a1), some (.int v2), some (.long v21), none, some (.int (x6 + (1 : Int32))), some (.int x14)], [], M20)) rfl ?_
        refine pm_ilt (fun y => (108, [some (.ref 49), some (.int a1), some (.int v2), some (.long v21), none, some (.int y), some (.int x14)], [], M20)) (fun x22 => ?_)
        refine pm_irun 1 (σ' := (11, [some (.ref 49), some (.int a1), some (.int v2), some (.long v21), none, some (.int x22), some (.int x14)], [], M20)) rfl ?_
        refine pm_iwk (al' := [some (.ref 49), some (.int a1), some (.int v2), some (.long v21), none, some (.int x22), none]) (pm_wkS (pm_wkS (pm_wkS (pm_wkS (pm_wkS (pm_wkS (pm_wkN pm_wk0))))))) ?_
        exact hg3 _ _ _
      · refine pm_irun 2 (σ' := (108, [some (.ref 49), some (.int a1), some (.int v2), some (.long x5), none, some (.int (x6 + (1 : Int32))), none], [], M12)) rfl ?_
        refine pm_ilt (fun y => (108, [some (.ref 49), some (.int a1), some (.int v2), some (.long x5), none, some (.int y), none], [], M12)) (fun x23 => ?_)
        refine pm_irun 1 (σ' := (11, [some (.ref 49), some (.int a1), some (.int v2), some (.long x5), none, some (.int x23), none], [], M12)) rfl ?_
        exact hg3 _ _ _
def sR_timeOf (a1 : Int32) (a2 : Int32) (M : pm_M) : Option (Int32 × pm_M) := if pm_in a2 5 then (if ¬ (M.1 50 a2.toNatClampNeg) = 0 then (if pm_in (((5 : Int32) * a1) + a2) 10 then (some ((M.1 51 (((5 : Int32) * a1) + a2).toNatClampNeg), M)) else none) else (if pm_in a2 10 then (some ((M.1 51 a2.toNatClampNeg), M)) else none)) else none
abbrev I_R_timeOf (sh : Option (Int32 × pm_M)) (σ : pm_St) : Prop := pm_Im none (pm_Ev 0) pm_T131 (some .int) pm_rI sh σ
set_option maxHeartbeats 4000000 in
set_option maxRecDepth 100000 in
theorem sR_timeOf_ok (a1 : Int32) (a2 : Int32) (M : pm_M) : ∀ r, sR_timeOf a1 a2 M = some r → pm_Ev 1 131 [.ref 49, .int a1, .int a2] M (pm_rI r).1 (pm_rI r).2 := by
  refine pm_meth (al := [some (.ref 49), some (.int a1), some (.int a2)]) rfl rfl rfl rfl rfl ?_
  unfold sR_timeOf
  show I_R_timeOf _ (0, [some (.ref 49), some (.int a1), some (.int a2)], [], M)
  refine pm_irun 3 (σ' := (5, [some (.ref 49), some (.int a1), some (.int a2)], [.int a2, .ref 50], M)) rfl ?_
  refine pm_igd (σ1 := (6, [some (.ref 49), some (.int a1), some (.int a2)], [.int (M.1 50 a2.toNatClampNeg)], M)) rfl (fun _ => ?_)
  refine pm_iite (σ1 := (18, [some (.ref 49), some (.int a1), some (.int a2)], [], M)) (σ2 := (9, [some (.ref 49), some (.int a1), some (.int a2)], [], M)) rfl (fun _ => ?_) (fun _ => ?_)
  · refine pm_irun 7 (σ' := (27, [some (.ref 49), some (.int a1), some (.int a2)], [.int (((5 : Int32) * a1) + a2), .ref 51], M)) rfl ?_
    refine pm_igd (σ1 := (28, [some (.ref 49), some (.int a1), some (.int a2)], [.int (M.1 51 (((5 : Int32) * a1) + a2).toNatClampNeg)], M)) rfl (fun _ => ?_)
    exact pm_irI rfl rfl
  · refine pm_irun 3 (σ' := (14, [some (.ref 49), some (.int a1), some (.int a2)], [.int a2, .ref 51], M)) rfl ?_
    refine pm_igd (σ1 := (15, [some (.ref 49), some (.int a1), some (.int a2)], [.int (M.1 51 a2.toNatClampNeg)], M)) rfl (fun _ => ?_)
    refine pm_irun 1 (σ' := (28, [some (.ref 49), some (.int a1), some (.int a2)], [.int (M.1 51 a2.toNatClampNeg)], M)) rfl ?_
    exact pm_irI rfl rfl
def sR_visits (a1 : Int32) (a2 : Int32) (a3 : Int32) (M : pm_M) : Option (Int64 × pm_M) := pm_bd (sR_isPart a1 M) fun v2 M1 => if v2 = 0 then (some ((-4611686018427387904 : Int64), M1)) else (pm_bd (sR_isStation a2 M1) fun v4 M3 => if v4 = 0 then (some ((-4611686018427387904 : Int64), M3)) else (pm_bd (sR_in (a3.toInt64) (0 : Int64) (1 : Int64) M3) fun v6 M5 => if v6 = 0 then (some ((-4611686018427387904 : Int64), M5)) else (pm_bd (sR_goesRound a1 M5) fun v8 M7 => if ¬ v8 = 0 then (pm_bv (sR_visit a1 M7) fun M9 => if pm_in (((5 : Int32) * a1) + a2) 10 then (pm_lt ((M9.2 59 (((5 : Int32) * a1) + a2).toNatClampNeg)) fun x10 => if ¬ a3 = 0 then (pm_bd (sR_timeOf a1 a2 M9) fun v12 M11 => some ((x10 * v12.toInt64), M11)) else (some (x10, M9))) else none) else (some ((-4611686018427387904 : Int64), M7)))))
abbrev I_R_visits (sh : Option (Int64 × pm_M)) (σ : pm_St) : Prop := pm_Im none (pm_Ev 13) pm_T147 (some .long) pm_rL sh σ
set_option maxHeartbeats 4000000 in
set_option maxRecDepth 100000 in
theorem sR_visits_ok (a1 : Int32) (a2 : Int32) (a3 : Int32) (M : pm_M) : ∀ r, sR_visits a1 a2 a3 M = some r → pm_Ev 14 147 [.ref 49, .int a1, .int a2, .int a3] M (pm_rL r).1 (pm_rL r).2 := by
  refine pm_meth (al := [some (.ref 49), some (.int a1), some (.int a2), some (.int a3), none, none]) rfl rfl rfl rfl rfl ?_
  unfold sR_visits
  show I_R_visits _ (0, [some (.ref 49), some (.int a1), some (.int a2), some (.int a3), none, none], [], M)
  refine pm_irun 1 (σ' := (1, [some (.ref 49), some (.int a1), some (.int a2), some (.int a3), none, none], [.int a1], M)) rfl ?_
  refine pm_icI (as := [.int a1]) (rest := []) rfl rfl rfl rfl (Nat.le_of_ble_eq_true rfl) rfl (fun r h => pm_Ev_mono (Nat.le_of_ble_eq_true rfl) (sR_isPart_ok a1 M r h)) (fun v2 M1 => ?_)
  show pm_Im _ _ _ _ _ _ (4, [some (.ref 49), some (.int a1), some (.int a2), some (.int a3), none, none], [.int v2], M1)
  refine pm_iite (σ1 := (33, [some (.ref 49), some (.int a1), some (.int a2), some (.int a3), none, none], [], M1)) (σ2 := (7, [some (.ref 49), some (.int a1), some (.int a2), some (.int a3), none, none], [], M1)) rfl (fun _ => ?_) (fun _ => ?_)
  · refine pm_irun 1 (σ' := (36, [some (.ref 49), some (.int a1), some (.int a2), some (.int a3), none, none], [.long (-4611686018427387904 : Int64)], M1)) rfl ?_
    exact pm_irL rfl rfl
  · refine pm_irun 2 (σ' := (9, [some (.ref 49), some (.int a1), some (.int a2), some (.int a3), none, none], [.int a2, .ref 49], M1)) rfl ?_
    refine pm_icI (as := [.ref 49, .int a2]) (rest := []) rfl rfl rfl rfl (Nat.le_of_ble_eq_true rfl) rfl (fun r h => pm_Ev_mono (Nat.le_of_ble_eq_true rfl) (sR_isStation_ok a2 M1 r h)) (fun v4 M3 => ?_)
    show pm_Im _ _ _ _ _ _ (12, [some (.ref 49), some (.int a1), some (.int a2), some (.int a3), none, none], [.int v4], M3)
    refine pm_iite (σ1 := (33, [some (.ref 49), some (.int a1), some (.int a2), some (.int a3), none, none], [], M3)) (σ2 := (15, [some (.ref 49), some (.int a1), some (.int a2), some (.int a3), none, none], [], M3)) rfl (fun _ => ?_) (fun _ => ?_)
    · refine pm_irun 1 (σ' := (36, [some (.ref 49), some (.int a1), some (.int a2), some (.int a3), none, none], [.long (-4611686018427387904 : Int64)], M3)) rfl ?_
      exact pm_irL rfl rfl
    · refine pm_irun 4 (σ' := (19, [some (.ref 49), some (.int a1), some (.int a2), some (.int a3), none, none], [.long (1 : Int64), .long (0 : Int64), .long a3.toInt64], M3)) rfl ?_
      refine pm_icI (as := [.long a3.toInt64, .long (0 : Int64), .long (1 : Int64)]) (rest := []) rfl rfl rfl rfl (Nat.le_of_ble_eq_true rfl) rfl (fun r h => pm_Ev_mono (Nat.le_of_ble_eq_true rfl) (sR_in_ok (a3.toInt64) (0 : Int64) (1 : Int64) M3 r h)) (fun v6 M5 => ?_)
      show pm_Im _ _ _ _ _ _ (22, [some (.ref 49), some (.int a1), some (.int a2), some (.int a3), none, none], [.int v6], M5)
      refine pm_iite (σ1 := (33, [some (.ref 49), some (.int a1), some (.int a2), some (.int a3), none, none], [], M5)) (σ2 := (25, [some (.ref 49), some (.int a1), some (.int a2), some (.int a3), none, none], [], M5)) rfl (fun _ => ?_) (fun _ => ?_)
      · refine pm_irun 1 (σ' := (36, [some (.ref 49), some (.int a1), some (.int a2), some (.int a3), none, none], [.long (-4611686018427387904 : Int64)], M5)) rfl ?_
        exact pm_irL rfl rfl
      · refine pm_irun 2 (σ' := (27, [some (.ref 49), some (.int a1), some (.int a2), some (.int a3), none, none], [.int a1, .ref 49], M5)) rfl ?_
        refine pm_icI (as := [.ref 49, .int a1]) (rest := []) rfl rfl rfl rfl (Nat.le_of_ble_eq_true rfl) rfl (fun r h => pm_Ev_mono (Nat.le_of_ble_eq_true rfl) (sR_goesRound_ok a1 M5 r h)) (fun v8 M7 => ?_)
        show pm_Im _ _ _ _ _ _ (30, [some (.ref 49), some (.int a1), some (.int a2), some (.int a3), none, none], [.int v8], M7)
        refine pm_iite (σ1 := (37, [some (.ref 49), some (.int a1), some (.int a2), some (.int a3), none, none], [], M7)) (σ2 := (33, [some (.ref 49), some (.int a1), some (.int a2), some (.int a3), none, none], [], M7)) rfl (fun _ => ?_) (fun _ => ?_)
        · refine pm_irun 2 (σ' := (39, [some (.ref 49), some (.int a1), some (.int a2), some (.int a3), none, none], [.int a1, .ref 49], M7)) rfl ?_
          refine pm_icV (as := [.ref 49, .int a1]) (rest := []) rfl rfl rfl rfl (Nat.le_of_ble_eq_true rfl) rfl (fun r h => pm_Ev_mono (Nat.le_of_ble_eq_true rfl) (sR_visit_ok a1 M7 r h)) (fun M9 => ?_)
          show pm_Im _ _ _ _ _ _ (42, [some (.ref 49), some (.int a1), some (.int a2), some (.int a3), none, none], [], M9)
          refine pm_irun 7 (σ' := (51, [some (.ref 49), some (.int a1), some (.int a2), some (.int a3), none, none], [.int (((5 : Int32) * a1) + a2), .ref 59], M9)) rfl ?_
          refine pm_igd (σ1 := (52, [some (.ref 49), some (.int a1), some (.int a2), some (.int a3), none, none], [.long (M9.2 59 (((5 : Int32) * a1) + a2).toNatClampNeg)], M9)) rfl (fun _ => ?_)
          refine pm_irun 1 (σ' := (54, [some (.ref 49), some (.int a1), some (.int a2), some (.int a3), some (.long (M9.2 59 (((5 : Int32) * a1) + a2).toNatClampNeg)), none], [], M9)) rfl ?_
          refine pm_ilt (fun y => (54, [some (.ref 49), some (.int a1), some (.int a2), some (.int a3), some (.long y), none], [], M9)) (fun x10 => ?_)
          refine pm_irun 1 (σ' := (55, [some (.ref 49), some (.int a1), some (.int a2), some (.int a3), some (.long x10), none], [.int a3], M9)) rfl ?_
          refine pm_iite (σ1 := (63, [some (.ref 49), some (.int a1), some (.int a2), some (.int a3), some (.long x10), none], [], M9)) (σ2 := (58, [some (.ref 49), some (.int a1), some (.int a2), some (.int a3), some (.long x10), none], [], M9)) rfl (fun _ => ?_) (fun _ => ?_)
          · refine pm_irun 4 (σ' := (68, [some (.ref 49), some (.int a1), some (.int a2), some (.int a3), some (.long x10), none], [.int a2, .int a1, .ref 49, .long x10], M9)) rfl ?_
            refine pm_icI (as := [.ref 49, .int a1, .int a2]) (rest := [.long x10]) rfl rfl rfl rfl (Nat.le_of_ble_eq_true rfl) rfl (fun r h => pm_Ev_mono (Nat.le_of_ble_eq_true rfl) (sR_timeOf_ok a1 a2 M9 r h)) (fun v12 M11 => ?_)
            show pm_Im _ _ _ _ _ _ (71, [some (.ref 49), some (.int a1), some (.int a2), some (.int a3), some (.long x10), none], [.int v12, .long x10], M11)
            refine pm_irun 2 (σ' := (73, [some (.ref 49), some (.int a1), some (.int a2), some (.int a3), some (.long x10), none], [.long (x10 * v12.toInt64)], M11)) rfl ?_
            exact pm_irL rfl rfl
          · refine pm_irun 2 (σ' := (73, [some (.ref 49), some (.int a1), some (.int a2), some (.int a3), some (.long x10), none], [.long x10], M9)) rfl ?_
            exact pm_irL rfl rfl
        · refine pm_irun 1 (σ' := (36, [some (.ref 49), some (.int a1), some (.int a2), some (.int a3), none, none], [.long (-4611686018427387904 : Int64)], M7)) rfl ?_
          exact pm_irL rfl rfl
def sTours_isSound  (M : pm_M) : Option (Int32 × pm_M) := if (M.1 16 0) = 0 then (some ((0 : Int32), M)) else (if (M.1 16 1) = 0 then (some ((0 : Int32), M)) else (some ((1 : Int32), M)))
abbrev I_Tours_isSound (sh : Option (Int32 × pm_M)) (σ : pm_St) : Prop := pm_Im none (pm_Ev 0) pm_T39 (some .boolean) pm_rI sh σ
set_option maxHeartbeats 4000000 in
set_option maxRecDepth 100000 in
theorem sTours_isSound_ok  (M : pm_M) : ∀ r, sTours_isSound  M = some r → pm_Ev 1 39 [.ref 15] M (pm_rI r).1 (pm_rI r).2 := by
  refine pm_meth (al := [some (.ref 15)]) rfl rfl rfl rfl rfl ?_
  unfold sTours_isSound
  show I_Tours_isSound _ (0, [some (.ref 15)], [], M)
  refine pm_irun 3 (σ' := (5, [some (.ref 15)], [.int (0 : Int32), .ref 16], M)) rfl ?_
  refine pm_igt (c := pm_in (0 : Int32) 2) (σ1 := (6, [some (.ref 15)], [.int (M.1 16 0)], M)) (by decide) rfl ?_
  refine pm_iite (σ1 := (22, [some (.ref 15)], [], M)) (σ2 := (9, [some (.ref 15)], [], M)) rfl (fun _ => ?_) (fun _ => ?_)
  · refine pm_irun 1 (σ' := (23, [some (.ref 15)], [.int (0 : Int32)], M)) rfl ?_
    exact pm_irZ (Or.inl rfl) rfl rfl
  · refine pm_irun 3 (σ' := (14, [some (.ref 15)], [.int (1 : Int32), .ref 16], M)) rfl ?_
    refine pm_igt (c := pm_in (1 : Int32) 2) (σ1 := (15, [some (.ref 15)], [.int (M.1 16 1)], M)) (by decide) rfl ?_
    refine pm_iite (σ1 := (22, [some (.ref 15)], [], M)) (σ2 := (18, [some (.ref 15)], [], M)) rfl (fun _ => ?_) (fun _ => ?_)
    · refine pm_irun 1 (σ' := (23, [some (.ref 15)], [.int (0 : Int32)], M)) rfl ?_
      exact pm_irZ (Or.inl rfl) rfl rfl
    · refine pm_irun 2 (σ' := (23, [some (.ref 15)], [.int (1 : Int32)], M)) rfl ?_
      exact pm_irZ (Or.inr rfl) rfl rfl
def sC_sound  (M : pm_M) : Option (Int32 × pm_M) := pm_bd (sTours_isSound M) fun v2 M1 => if v2 = 0 then (some ((0 : Int32), M1)) else (some ((1 : Int32), M1))
abbrev I_C_sound (sh : Option (Int32 × pm_M)) (σ : pm_St) : Prop := pm_Im none (pm_Ev 1) pm_T70 (some .int) pm_rI sh σ
set_option maxHeartbeats 4000000 in
set_option maxRecDepth 100000 in
theorem sC_sound_ok  (M : pm_M) : ∀ r, sC_sound  M = some r → pm_Ev 2 70 [.ref 0] M (pm_rI r).1 (pm_rI r).2 := by
  refine pm_meth (al := [some (.ref 0)]) rfl rfl rfl rfl rfl ?_
  unfold sC_sound
  show I_C_sound _ (0, [some (.ref 0)], [], M)
  refine pm_irun 2 (σ' := (4, [some (.ref 0)], [.ref 15], M)) rfl ?_
  refine pm_icI (as := [.ref 15]) (rest := []) rfl rfl rfl rfl (Nat.le_of_ble_eq_true rfl) rfl (fun r h => pm_Ev_mono (Nat.le_of_ble_eq_true rfl) (sTours_isSound_ok M r h)) (fun v2 M1 => ?_)
  show pm_Im _ _ _ _ _ _ (7, [some (.ref 0)], [.int v2], M1)
  refine pm_iite (σ1 := (14, [some (.ref 0)], [], M1)) (σ2 := (10, [some (.ref 0)], [], M1)) rfl (fun _ => ?_) (fun _ => ?_)
  · refine pm_irun 1 (σ' := (15, [some (.ref 0)], [.int (0 : Int32)], M1)) rfl ?_
    exact pm_irI rfl rfl
  · refine pm_irun 2 (σ' := (15, [some (.ref 0)], [.int (1 : Int32)], M1)) rfl ?_
    exact pm_irI rfl rfl
def sR_isSound  (M : pm_M) : Option (Int32 × pm_M) := pm_loop (fun _ _ => none) (fun (g1 : Int32 → pm_M → Option (Int32 × pm_M)) x3 M2 => if (2 : Int32) ≤ x3 then (some ((1 : Int32), M2)) else (pm_loop (fun _ _ => none) (fun (g4 : Int32 → pm_M → Option (Int32 × pm_M)) x6 M5 => if (5 : Int32) ≤ x6 then (if pm_in x3 2 then (if ¬ (M5.1 53 x3.toNatClampNeg) = 0 then (pm_bd (sR_goesRound x3 M5) fun v8 M7 => if ¬ v8 = 0 then (pm_bv (sR_visit x3 M7) fun M9 => pm_loop (fun _ _ => none) (fun (g10 : Int32 → pm_M → Option (Int32 × pm_M)) x12 M11 => if (M11.1 49 1) ≤ x12 then (pm_lt ((x3 + (1 : Int32))) fun x13 => g1 x13 M11) else (if pm_in (((5 : Int32) * x3) + x12) 10 then (pm_bd (sR_timeOf x3 x12 M11) fun v15 M14 => if pm_in (((5 : Int32) * x3) + x12) 10 then (pm_lt (pm_sL M14 60 (((5 : Int32) * x3) + x12).toNatClampNeg (((M11.2 59 (((5 : Int32) * x3) + x12).toNatClampNeg) * v15.toInt64))) fun M16 => if pm_in (((5 : Int32) * x3) + x12) 10 then (if (lg_cmp (M16.2 60 (((5 : Int32) * x3) + x12).toNatClampNeg) (20 : Int64)) ≤ 0 then (pm_lt ((x12 + (1 : Int32))) fun x17 => g10 x17 M16) else (some ((0 : Int32), M16))) else none) else none) else none)) 1000000 (0 : Int32) M9) else (some ((0 : Int32), M7))) else (pm_lt ((x3 + (1 : Int32))) fun x18 => g1 x18 M5)) else none) else (if pm_in (((5 : Int32) * x3) + x6) 10 then (pm_lt (pm_sL M5 60 (((5 : Int32) * x3) + x6).toNatClampNeg (0 : Int64)) fun M19 => pm_lt ((x6 + (1 : Int32))) fun x20 => g4 x20 M19) else none)) 1000000 (0 : Int32) M2)) 1000000 (0 : Int32) M
abbrev I_R_isSound (sh : Option (Int32 × pm_M)) (σ : pm_St) : Prop := pm_Im none (pm_Ev 13) pm_T148 (some .boolean) pm_rI sh σ
set_option maxHeartbeats 4000000 in
set_option maxRecDepth 100000 in
theorem sR_isSound_ok  (M : pm_M) : ∀ r, sR_isSound  M = some r → pm_Ev 14 148 [.ref 49] M (pm_rI r).1 (pm_rI r).2 := by
  refine pm_meth (al := [some (.ref 49), none, none]) rfl rfl rfl rfl rfl ?_
  unfold sR_isSound
  show I_R_isSound _ (0, [some (.ref 49), none, none], [], M)
  refine pm_irun 2 (σ' := (2, [some (.ref 49), some (.int (0 : Int32)), none], [], M)) rfl ?_
  refine pm_iloop (fun (g : Int32 → pm_M → Option (Int32 × pm_M)) => ∀ (x3 : Int32) (M2 : pm_M), I_R_isSound (g x3 M2) (2, [some (.ref 49), some (.int x3), none], [], M2)) (fun _ _ => pm_inone) (fun g1 hg1 x3 M2 => ?_) 1000000 _ _
  show I_R_isSound _ (2, [some (.ref 49), some (.int x3), none], [], M2)
  refine pm_irun 2 (σ' := (4, [some (.ref 49), some (.int x3), none], [.int (2 : Int32), .int x3], M2)) rfl ?_
  refine pm_iite (σ1 := (127, [some (.ref 49), some (.int x3), none], [], M2)) (σ2 := (7, [some (.ref 49), some (.int x3), none], [], M2)) rfl (fun _ => ?_) (fun _ => ?_)
  · refine pm_irun 1 (σ' := (128, [some (.ref 49), some (.int x3), none], [.int (1 : Int32)], M2)) rfl ?_
    exact pm_irZ (Or.inr rfl) rfl rfl
  · refine pm_irun 2 (σ' := (9, [some (.ref 49), some (.int x3), some (.int (0 : Int32))], [], M2)) rfl ?_
    refine pm_iloop (fun (g : Int32 → pm_M → Option (Int32 × pm_M)) => ∀ (x6 : Int32) (M5 : pm_M), I_R_isSound (g x6 M5) (9, [some (.ref 49), some (.int x3), some (.int x6)], [], M5)) (fun _ _ => pm_inone) (fun g4 hg4 x6 M5 => ?_) 1000000 _ _
    show I_R_isSound _ (9, [some (.ref 49), some (.int x3), some (.int x6)], [], M5)
    refine pm_irun 2 (σ' := (11, [some (.ref 49), some (.int x3), some (.int x6)], [.int (5 : Int32), .int x6], M5)) rfl ?_
    refine pm_iite (σ1 := (31, [some (.ref 49), some (.int x3), some (.int x6)], [], M5)) (σ2 := (14, [some (.ref 49), some (.int x3), some (.int x6)], [], M5)) rfl (fun _ => ?_) (fun _ => ?_)
    · refine pm_irun 3 (σ' := (36, [some (.ref 49), some (.int x3), some (.int x6)], [.int x3, .ref 53], M5)) rfl ?_
      refine pm_igd (σ1 := (37, [some (.ref 49), some (.int x3), some (.int x6)], [.int (M5.1 53 x3.toNatClampNeg)], M5)) rfl (fun _ => ?_)
      refine pm_iite (σ1 := (43, [some (.ref 49), some (.int x3), some (.int x6)], [], M5)) (σ2 := (40, [some (.ref 49), some (.int x3), some (.int x6)], [], M5)) rfl (fun _ => ?_) (fun _ => ?_)
      · refine pm_irun 2 (σ' := (45, [some (.ref 49), some (.int x3), some (.int x6)], [.int x3, .ref 49], M5)) rfl ?_
        refine pm_icI (as := [.ref 49, .int x3]) (rest := []) rfl rfl rfl rfl (Nat.le_of_ble_eq_true rfl) rfl (fun r h => pm_Ev_mono (Nat.le_of_ble_eq_true rfl) (sR_goesRound_ok x3 M5 r h)) (fun v8 M7 => ?_)
        show pm_Im _ _ _ _ _ _ (48, [some (.ref 49), some (.int x3), some (.int x6)], [.int v8], M7)
        refine pm_iite (σ1 := (53, [some (.ref 49), some (.int x3), some (.int x6)], [], M7)) (σ2 := (51, [some (.ref 49), some (.int x3), some (.int x6)], [], M7)) rfl (fun _ => ?_) (fun _ => ?_)
        · refine pm_irun 2 (σ' := (55, [some (.ref 49), some (.int x3), some (.int x6)], [.int x3, .ref 49], M7)) rfl ?_
          refine pm_icV (as := [.ref 49, .int x3]) (rest := []) rfl rfl rfl rfl (Nat.le_of_ble_eq_true rfl) rfl (fun r h => pm_Ev_mono (Nat.le_of_ble_eq_true rfl) (sR_visit_ok x3 M7 r h)) (fun M9 => ?_)
          show pm_Im _ _ _ _ _ _ (58, [some (.ref 49), some (.int x3), some (.int x6)], [], M9)
          refine pm_irun 2 (σ' := (60, [some (.ref 49), some (.int x3), some (.int (0 : Int32))], [], M9)) rfl ?_
          refine pm_iloop (fun (g : Int32 → pm_M → Option (Int32 × pm_M)) => ∀ (x12 : Int32) (M11 : pm_M), I_R_isSound (g x12 M11) (60, [some (.ref 49), some (.int x3), some (.int x12)], [], M11)) (fun _ _ => pm_inone) (fun g10 hg10 x12 M11 => ?_) 1000000 _ _
          show I_R_isSound _ (60, [some (.ref 49), some (.int x3), some (.int x12)], [], M11)
          refine pm_irun 3 (σ' := (65, [some (.ref 49), some (.int x3), some (.int x12)], [.int (M11.1 49 1), .int x12], M11)) rfl ?_
          refine pm_iite (σ1 := (121, [some (.ref 49), some (.int x3), some (.int x12)], [], M11)) (σ2 := (68, [some (.ref 49), some (.int x3), some (.int x12)], [], M11)) rfl (fun _ => ?_) (fun _ => ?_)
          · refine pm_irun 1 (σ' := (124, [some (.ref 49), some (.int (x3 + (1 : Int32))), some (.int x12)], [], M11)) rfl ?_
            refine pm_ilt (fun y => (124, [some (.ref 49), some (.int y), some (.int x12)], [], M11)) (fun x13 => ?_)
            refine pm_irun 1 (σ' := (2, [some (.ref 49), some (.int x13), some (.int x12)], [], M11)) rfl ?_
            refine pm_iwk (al' := [some (.ref 49), some (.int x13), none]) (pm_wkS (pm_wkS (pm_wkN pm_wk0))) ?_
            exact hg1 _ _
          · refine pm_irun 8 (σ' := (78, [some (.ref 49), some (.int x3), some (.int x12)], [.ref 49, .int (((5 : Int32) * x3) + x12), .ref 60], M11)) rfl ?_
            refine pm_irun 6 (σ' := (86, [some (.ref 49), some (.int x3), some (.int x12)], [.int (((5 : Int32) * x3) + x12), .ref 59, .int (((5 : Int32) * x3) + x12), .ref 60], M11)) rfl ?_
            refine pm_igd (σ1 := (87, [some (.ref 49), some (.int x3), some (.int x12)], [.long (M11.2 59 (((5 : Int32) * x3) + x12).toNatClampNeg), .int (((5 : Int32) * x3) + x12), .ref 60], M11)) rfl (fun _ => ?_)
            refine pm_irun 3 (σ' := (90, [some (.ref 49), some (.int x3), some (.int x12)], [.int x12, .int x3, .ref 49, .long (M11.2 59 (((5 : Int32) * x3) + x12).toNatClampNeg), .int (((5 : Int32) * x3) + x12), .ref 60], M11)) rfl ?_
            refine pm_icI (as := [.ref 49, .int x3, .int x12]) (rest := [.long (M11.2 59 (((5 : Int32) * x3) + x12).toNatClampNeg), .int (((5 : Int32) * x3) + x12), .ref 60]) rfl rfl rfl rfl (Nat.le_of_ble_eq_true rfl) rfl (fun r h => pm_Ev_mono (Nat.le_of_ble_eq_true rfl) (sR_timeOf_ok x3 x12 M11 r h)) (fun v15 M14 => ?_)
            show pm_Im _ _ _ _ _ _ (93, [some (.ref 49), some (.int x3), some (.int x12)], [.int v15, .long (M11.2 59 (((5 : Int32) * x3) + x12).toNatClampNeg), .int (((5 : Int32) * x3) + x12), .ref 60], M14)
            refine pm_irun 2 (σ' := (95, [some (.ref 49), some (.int x3), some (.int x12)], [.long ((M11.2 59 (((5 : Int32) * x3) + x12).toNatClampNeg) * v15.toInt64), .int (((5 : Int32) * x3) + x12), .ref 60], M14)) rfl ?_
            refine pm_igd (σ1 := (96, [some (.ref 49), some (.int x3), some (.int x12)], [], (pm_sL M14 60 (((5 : Int32) * x3) + x12).toNatClampNeg (((M11.2 59 (((5 : Int32) * x3) + x12).toNatClampNeg) * v15.toInt64))))) rfl (fun _ => ?_)
            refine pm_ilt (fun y => (96, [some (.ref 49), some (.int x3), some (.int x12)], [], y)) (fun M16 => ?_)
            refine pm_irun 7 (σ' := (105, [some (.ref 49), some (.int x3), some (.int x12)], [.int (((5 : Int32) * x3) + x12), .ref 60], M16)) rfl ?_
            refine pm_igd (σ1 := (106, [some (.ref 49), some (.int x3), some (.int x12)], [.long (M16.2 60 (((5 : Int32) * x3) + x12).toNatClampNeg)], M16)) rfl (fun _ => ?_)
            refine pm_irun 2 (σ' := (110, [some (.ref 49), some (.int x3), some (.int x12)], [.int (lg_cmp (M16.2 60 (((5 : Int32) * x3) + x12).toNatClampNeg) (20 : Int64))], M16)) rfl ?_
            refine pm_iite (σ1 := (115, [some (.ref 49), some (.int x3), some (.int x12)], [], M16)) (σ2 := (113, [some (.ref 49), some (.int x3), some (.int x12)], [], M16)) rfl (fun _ => ?_) (fun _ => ?_)
            · refine pm_irun 1 (σ' := (118, [some (.ref 49), some (.int x3), some (.int (x12 + (1 : Int32)))], [], M16)) rfl ?_
              refine pm_ilt (fun y => (118, [some (.ref 49), some (.int x3), some (.int y)], [], M16)) (fun x17 => ?_)
              refine pm_irun 1 (σ' := (60, [some (.ref 49), some (.int x3), some (.int x17)], [], M16)) rfl ?_
              exact hg10 _ _
            · refine pm_irun 1 (σ' := (114, [some (.ref 49), some (.int x3), some (.int x12)], [.int (0 : Int32)], M16)) rfl ?_
              exact pm_irZ (Or.inl rfl) rfl rfl
        · refine pm_irun 1 (σ' := (52, [some (.ref 49), some (.int x3), some (.int x6)], [.int (0 : Int32)], M7)) rfl ?_
          exact pm_irZ (Or.inl rfl) rfl rfl
      · refine pm_irun 2 (σ' := (124, [some (.ref 49), some (.int (x3 + (1 : Int32))), some (.int x6)], [], M5)) rfl ?_
        refine pm_ilt (fun y => (124, [some (.ref 49), some (.int y), some (.int x6)], [], M5)) (fun x18 => ?_)
        refine pm_irun 1 (σ' := (2, [some (.ref 49), some (.int x18), some (.int x6)], [], M5)) rfl ?_
        refine pm_iwk (al' := [some (.ref 49), some (.int x18), none]) (pm_wkS (pm_wkS (pm_wkN pm_wk0))) ?_
        exact hg1 _ _
    · refine pm_irun 8 (σ' := (24, [some (.ref 49), some (.int x3), some (.int x6)], [.long (0 : Int64), .int (((5 : Int32) * x3) + x6), .ref 60], M5)) rfl ?_
      refine pm_igd (σ1 := (25, [some (.ref 49), some (.int x3), some (.int x6)], [], (pm_sL M5 60 (((5 : Int32) * x3) + x6).toNatClampNeg (0 : Int64)))) rfl (fun _ => ?_)
      refine pm_ilt (fun y => (25, [some (.ref 49), some (.int x3), some (.int x6)], [], y)) (fun M19 => ?_)
      refine pm_irun 1 (σ' := (28, [some (.ref 49), some (.int x3), some (.int (x6 + (1 : Int32)))], [], M19)) rfl ?_
      refine pm_ilt (fun y => (28, [some (.ref 49), some (.int x3), some (.int y)], [], M19)) (fun x20 => ?_)
      refine pm_irun 1 (σ' := (9, [some (.ref 49), some (.int x3), some (.int x20)], [], M19)) rfl ?_
      exact hg4 _ _
def sR_sound  (M : pm_M) : Option (Int32 × pm_M) := pm_bd (sR_isSound M) fun v2 M1 => if v2 = 0 then (some ((0 : Int32), M1)) else (some ((1 : Int32), M1))
abbrev I_R_sound (sh : Option (Int32 × pm_M)) (σ : pm_St) : Prop := pm_Im none (pm_Ev 14) pm_T149 (some .int) pm_rI sh σ
set_option maxHeartbeats 4000000 in
set_option maxRecDepth 100000 in
theorem sR_sound_ok  (M : pm_M) : ∀ r, sR_sound  M = some r → pm_Ev 15 149 [.ref 49] M (pm_rI r).1 (pm_rI r).2 := by
  refine pm_meth (al := [some (.ref 49)]) rfl rfl rfl rfl rfl ?_
  unfold sR_sound
  show I_R_sound _ (0, [some (.ref 49)], [], M)
  refine pm_irun 1 (σ' := (1, [some (.ref 49)], [.ref 49], M)) rfl ?_
  refine pm_icI (as := [.ref 49]) (rest := []) rfl rfl rfl rfl (Nat.le_of_ble_eq_true rfl) rfl (fun r h => pm_Ev_mono (Nat.le_of_ble_eq_true rfl) (sR_isSound_ok M r h)) (fun v2 M1 => ?_)
  show pm_Im _ _ _ _ _ _ (4, [some (.ref 49)], [.int v2], M1)
  refine pm_iite (σ1 := (11, [some (.ref 49)], [], M1)) (σ2 := (7, [some (.ref 49)], [], M1)) rfl (fun _ => ?_) (fun _ => ?_)
  · refine pm_irun 1 (σ' := (12, [some (.ref 49)], [.int (0 : Int32)], M1)) rfl ?_
    exact pm_irI rfl rfl
  · refine pm_irun 2 (σ' := (12, [some (.ref 49)], [.int (1 : Int32)], M1)) rfl ?_
    exact pm_irI rfl rfl
def sC_isLine (a1 : Int32) (M : pm_M) : Option (Int32 × pm_M) := if a1 = 0 then (some ((1 : Int32), M)) else (if ¬ a1 = (1 : Int32) then (some ((0 : Int32), M)) else (some ((1 : Int32), M)))
abbrev I_C_isLine (sh : Option (Int32 × pm_M)) (σ : pm_St) : Prop := pm_Im none (pm_Ev 0) pm_T99 (some .boolean) pm_rI sh σ
set_option maxHeartbeats 4000000 in
set_option maxRecDepth 100000 in
theorem sC_isLine_ok (a1 : Int32) (M : pm_M) : ∀ r, sC_isLine a1 M = some r → pm_Ev 1 99 [.int a1] M (pm_rI r).1 (pm_rI r).2 := by
  refine pm_meth (al := [some (.int a1)]) rfl rfl rfl rfl rfl ?_
  unfold sC_isLine
  show I_C_isLine _ (0, [some (.int a1)], [], M)
  refine pm_irun 1 (σ' := (1, [some (.int a1)], [.int a1], M)) rfl ?_
  refine pm_iite (σ1 := (9, [some (.int a1)], [], M)) (σ2 := (4, [some (.int a1)], [], M)) rfl (fun _ => ?_) (fun _ => ?_)
  · refine pm_irun 2 (σ' := (14, [some (.int a1)], [.int (1 : Int32)], M)) rfl ?_
    exact pm_irZ (Or.inr rfl) rfl rfl
  · refine pm_irun 2 (σ' := (6, [some (.int a1)], [.int (1 : Int32), .int a1], M)) rfl ?_
    refine pm_iite (σ1 := (13, [some (.int a1)], [], M)) (σ2 := (9, [some (.int a1)], [], M)) rfl (fun _ => ?_) (fun _ => ?_)
    · refine pm_irun 1 (σ' := (14, [some (.int a1)], [.int (0 : Int32)], M)) rfl ?_
      exact pm_irZ (Or.inl rfl) rfl rfl
    · refine pm_irun 2 (σ' := (14, [some (.int a1)], [.int (1 : Int32)], M)) rfl ?_
      exact pm_irZ (Or.inr rfl) rfl rfl
def sJArr_fillL_26 (a2 : Int64) (M : pm_M) : Option (pm_M) := pm_loop (fun _ _ => none) (fun (g1 : Int32 → pm_M → Option (pm_M)) x3 M2 => if (49 : Int32) ≤ x3 then (some M2) else (if pm_in x3 49 then (pm_lt (pm_sL M2 26 x3.toNatClampNeg a2) fun M4 => pm_lt ((x3 + (1 : Int32))) fun x5 => g1 x5 M4) else none)) 1000000 (0 : Int32) M
abbrev I_JArr_fillL_26 (sh : Option (pm_M)) (σ : pm_St) : Prop := pm_Im none (pm_Ev 0) pm_T207 none pm_rV sh σ
set_option maxHeartbeats 4000000 in
set_option maxRecDepth 100000 in
theorem sJArr_fillL_26_ok (a2 : Int64) (M : pm_M) : ∀ r, sJArr_fillL_26 a2 M = some r → pm_Ev 1 207 [.ref 26, .long a2] M (pm_rV r).1 (pm_rV r).2 := by
  refine pm_meth (al := [some (.ref 26), some (.long a2), none, none, none]) rfl rfl rfl rfl rfl ?_
  unfold sJArr_fillL_26
  show I_JArr_fillL_26 _ (0, [some (.ref 26), some (.long a2), none, none, none], [], M)
  refine pm_irun 2 (σ' := (2, [some (.ref 26), some (.long a2), none, some (.int (0 : Int32)), none], [], M)) rfl ?_
  refine pm_irun 3 (σ' := (6, [some (.ref 26), some (.long a2), none, some (.int (0 : Int32)), some (.int (49 : Int32))], [], M)) rfl ?_
  refine pm_iloop (fun (g : Int32 → pm_M → Option (pm_M)) => ∀ (x3 : Int32) (M2 : pm_M), I_JArr_fillL_26 (g x3 M2) (6, [some (.ref 26), some (.long a2), none, some (.int x3), some (.int (49 : Int32))], [], M2)) (fun _ _ => pm_inone) (fun g1 hg1 x3 M2 => ?_) 1000000 _ _
  show I_JArr_fillL_26 _ (6, [some (.ref 26), some (.long a2), none, some (.int x3), some (.int (49 : Int32))], [], M2)
  refine pm_irun 2 (σ' := (9, [some (.ref 26), some (.long a2), none, some (.int x3), some (.int (49 : Int32))], [.int (49 : Int32), .int x3], M2)) rfl ?_
  refine pm_iite (σ1 := (22, [some (.ref 26), some (.long a2), none, some (.int x3), some (.int (49 : Int32))], [], M2)) (σ2 := (12, [some (.ref 26), some (.long a2), none, some (.int x3), some (.int (49 : Int32))], [], M2)) rfl (fun _ => ?_) (fun _ => ?_)
  · exact pm_irV rfl rfl
  · refine pm_irun 3 (σ' := (15, [some (.ref 26), some (.long a2), none, some (.int x3), some (.int (49 : Int32))], [.long a2, .int x3, .ref 26], M2)) rfl ?_
    refine pm_igd (σ1 := (16, [some (.ref 26), some (.long a2), none, some (.int x3), some (.int (49 : Int32))], [], (pm_sL M2 26 x3.toNatClampNeg a2))) rfl (fun _ => ?_)
    refine pm_ilt (fun y => (16, [some (.ref 26), some (.long a2), none, some (.int x3), some (.int (49 : Int32))], [], y)) (fun M4 => ?_)
    refine pm_irun 1 (σ' := (19, [some (.ref 26), some (.long a2), none, some (.int (x3 + (1 : Int32))), some (.int (49 : Int32))], [], M4)) rfl ?_
    refine pm_ilt (fun y => (19, [some (.ref 26), some (.long a2), none, some (.int y), some (.int (49 : Int32))], [], M4)) (fun x5 => ?_)
    refine pm_irun 1 (σ' := (6, [some (.ref 26), some (.long a2), none, some (.int x5), some (.int (49 : Int32))], [], M4)) rfl ?_
    exact hg1 _ _
def sC_power (a1 : Int64) (a2 : Int32) (M : pm_M) : Option (Int64 × pm_M) := pm_loop (fun _ _ _ => none) (fun (g1 : Int64 → Int32 → pm_M → Option (Int64 × pm_M)) x3 x4 M2 => if a2 ≤ x4 then (some (x3, M2)) else (pm_lt ((x3 * a1)) fun x5 => pm_lt ((x4 + (1 : Int32))) fun x6 => g1 x5 x6 M2)) 1000000 (1 : Int64) (0 : Int32) M
abbrev I_C_power (sh : Option (Int64 × pm_M)) (σ : pm_St) : Prop := pm_Im none (pm_Ev 0) pm_T119 (some .long) pm_rL sh σ
set_option maxHeartbeats 4000000 in
set_option maxRecDepth 100000 in
theorem sC_power_ok (a1 : Int64) (a2 : Int32) (M : pm_M) : ∀ r, sC_power a1 a2 M = some r → pm_Ev 1 119 [.long a1, .int a2] M (pm_rL r).1 (pm_rL r).2 := by
  refine pm_meth (al := [some (.long a1), none, some (.int a2), none, none, none]) rfl rfl rfl rfl rfl ?_
  unfold sC_power
  show I_C_power _ (0, [some (.long a1), none, some (.int a2), none, none, none], [], M)
  refine pm_irun 2 (σ' := (2, [some (.long a1), none, some (.int a2), some (.long (1 : Int64)), none, none], [], M)) rfl ?_
  refine pm_irun 2 (σ' := (5, [some (.long a1), none, some (.int a2), some (.long (1 : Int64)), none, some (.int (0 : Int32))], [], M)) rfl ?_
  refine pm_iloop (fun (g : Int64 → Int32 → pm_M → Option (Int64 × pm_M)) => ∀ (x3 : Int64) (x4 : Int32) (M2 : pm_M), I_C_power (g x3 x4 M2) (5, [some (.long a1), none, some (.int a2), some (.long x3), none, some (.int x4)], [], M2)) (fun _ _ _ => pm_inone) (fun g1 hg1 x3 x4 M2 => ?_) 1000000 _ _ _
  show I_C_power _ (5, [some (.long a1), none, some (.int a2), some (.long x3), none, some (.int x4)], [], M2)
  refine pm_irun 2 (σ' := (8, [some (.long a1), none, some (.int a2), some (.long x3), none, some (.int x4)], [.int a2, .int x4], M2)) rfl ?_
  refine pm_iite (σ1 := (21, [some (.long a1), none, some (.int a2), some (.long x3), none, some (.int x4)], [], M2)) (σ2 := (11, [some (.long a1), none, some (.int a2), some (.long x3), none, some (.int x4)], [], M2)) rfl (fun _ => ?_) (fun _ => ?_)
  · refine pm_irun 1 (σ' := (22, [some (.long a1), none, some (.int a2), some (.long x3), none, some (.int x4)], [.long x3], M2)) rfl ?_
    exact pm_irL rfl rfl
  · refine pm_irun 4 (σ' := (15, [some (.long a1), none, some (.int a2), some (.long (x3 * a1)), none, some (.int x4)], [], M2)) rfl ?_
    refine pm_ilt (fun y => (15, [some (.long a1), none, some (.int a2), some (.long y), none, some (.int x4)], [], M2)) (fun x5 => ?_)
    refine pm_irun 1 (σ' := (18, [some (.long a1), none, some (.int a2), some (.long x5), none, some (.int (x4 + (1 : Int32)))], [], M2)) rfl ?_
    refine pm_ilt (fun y => (18, [some (.long a1), none, some (.int a2), some (.long x5), none, some (.int y)], [], M2)) (fun x6 => ?_)
    refine pm_irun 1 (σ' := (5, [some (.long a1), none, some (.int a2), some (.long x5), none, some (.int x6)], [], M2)) rfl ?_
    exact hg1 _ _ _
def sC_factorial (a1 : Int32) (M : pm_M) : Option (Int64 × pm_M) := if a1 < 0 then (some ((0 : Int64), M)) else (if (9 : Int32) ≤ a1 then (some ((0 : Int64), M)) else (if pm_in a1 9 then (some ((pm_FA a1.toNatClampNeg), M)) else none))
abbrev I_C_factorial (sh : Option (Int64 × pm_M)) (σ : pm_St) : Prop := pm_Im none (pm_Ev 0) pm_T117 (some .long) pm_rL sh σ
set_option maxHeartbeats 4000000 in
set_option maxRecDepth 100000 in
theorem sC_factorial_ok (a1 : Int32) (M : pm_M) : ∀ r, sC_factorial a1 M = some r → pm_Ev 1 117 [.int a1] M (pm_rL r).1 (pm_rL r).2 := by
  refine pm_meth (al := [some (.int a1)]) rfl rfl rfl rfl rfl ?_
  unfold sC_factorial
  show I_C_factorial _ (0, [some (.int a1)], [], M)
  refine pm_irun 1 (σ' := (1, [some (.int a1)], [.int a1], M)) rfl ?_
  refine pm_iite (σ1 := (20, [some (.int a1)], [], M)) (σ2 := (4, [some (.int a1)], [], M)) rfl (fun _ => ?_) (fun _ => ?_)
  · refine pm_irun 1 (σ' := (21, [some (.int a1)], [.long (0 : Int64)], M)) rfl ?_
    exact pm_irL rfl rfl
  · refine pm_irun 3 (σ' := (9, [some (.int a1)], [.int (9 : Int32), .int a1], M)) rfl ?_
    refine pm_iite (σ1 := (20, [some (.int a1)], [], M)) (σ2 := (12, [some (.int a1)], [], M)) rfl (fun _ => ?_) (fun _ => ?_)
    · refine pm_irun 1 (σ' := (21, [some (.int a1)], [.long (0 : Int64)], M)) rfl ?_
      exact pm_irL rfl rfl
    · refine pm_irun 2 (σ' := (16, [some (.int a1)], [.int a1, .ref 100], M)) rfl ?_
      refine pm_igd (σ1 := (17, [some (.int a1)], [.long (pm_FA a1.toNatClampNeg)], M)) rfl (fun _ => ?_)
      refine pm_irun 1 (σ' := (21, [some (.int a1)], [.long (pm_FA a1.toNatClampNeg)], M)) rfl ?_
      exact pm_irL rfl rfl
