def sC_time (a1 : Int32) (a2 : Int32) (a3 : Int32) (M : pm_M) : Option (Int32 × pm_M) := pm_bd (sNet_hasStation_1 a1 M) fun v2 M1 => if v2 = 0 then (some ((-2 : Int32), M1)) else (pm_bd (sC_isClass a2 M1) fun v4 M3 => if v4 = 0 then (some ((-2 : Int32), M3)) else (pm_bd (sC_isTime a3 M3) fun v6 M5 => if ¬ v6 = 0 then (if pm_in ((a2 * (5 : Int32)) + a1) 10 then (pm_lt ((M5.1 3 ((a2 * (5 : Int32)) + a1).toNatClampNeg)) fun x7 => if pm_in ((a2 * (5 : Int32)) + a1) 10 then (pm_lt (pm_sI M5 3 ((a2 * (5 : Int32)) + a1).toNatClampNeg a3) fun M8 => pm_bv (sC_netTold M8) fun M9 => some (x7, M9)) else none) else none) else (some ((-2 : Int32), M5))))
abbrev I_C_time (sh : Option (Int32 × pm_M)) (σ : pm_St) : Prop := pm_Im none (pm_Ev 4) pm_T58 (some .int) pm_rI sh σ
set_option maxHeartbeats 4000000 in
set_option maxRecDepth 100000 in
theorem sC_time_ok (a1 : Int32) (a2 : Int32) (a3 : Int32) (M : pm_M) : ∀ r, sC_time a1 a2 a3 M = some r → pm_Ev 5 58 [.ref 0, .int a1, .int a2, .int a3] M (pm_rI r).1 (pm_rI r).2 := by
  refine pm_meth (al := [some (.ref 0), some (.int a1), some (.int a2), some (.int a3), none]) rfl rfl rfl rfl rfl ?_
  unfold sC_time
  show I_C_time _ (0, [some (.ref 0), some (.int a1), some (.int a2), some (.int a3), none], [], M)
  refine pm_irun 3 (σ' := (5, [some (.ref 0), some (.int a1), some (.int a2), some (.int a3), none], [.int a1, .ref 1], M)) rfl ?_
  refine pm_icI (as := [.ref 1, .int a1]) (rest := []) rfl rfl rfl rfl (Nat.le_of_ble_eq_true rfl) rfl (fun r h => pm_Ev_mono (Nat.le_of_ble_eq_true rfl) (sNet_hasStation_1_ok a1 M r h)) (fun v2 M1 => ?_)
  show pm_Im _ _ _ _ _ _ (8, [some (.ref 0), some (.int a1), some (.int a2), some (.int a3), none], [.int v2], M1)
  refine pm_iite (σ1 := (25, [some (.ref 0), some (.int a1), some (.int a2), some (.int a3), none], [], M1)) (σ2 := (11, [some (.ref 0), some (.int a1), some (.int a2), some (.int a3), none], [], M1)) rfl (fun _ => ?_) (fun _ => ?_)
  · refine pm_irun 1 (σ' := (27, [some (.ref 0), some (.int a1), some (.int a2), some (.int a3), none], [.int (-2 : Int32)], M1)) rfl ?_
    exact pm_irI rfl rfl
  · refine pm_irun 1 (σ' := (12, [some (.ref 0), some (.int a1), some (.int a2), some (.int a3), none], [.int a2], M1)) rfl ?_
    refine pm_icI (as := [.int a2]) (rest := []) rfl rfl rfl rfl (Nat.le_of_ble_eq_true rfl) rfl (fun r h => pm_Ev_mono (Nat.le_of_ble_eq_true rfl) (sC_isClass_ok a2 M1 r h)) (fun v4 M3 => ?_)
    show pm_Im _ _ _ _ _ _ (15, [some (.ref 0), some (.int a1), some (.int a2), some (.int a3), none], [.int v4], M3)
    refine pm_iite (σ1 := (25, [some (.ref 0), some (.int a1), some (.int a2), some (.int a3), none], [], M3)) (σ2 := (18, [some (.ref 0), some (.int a1), some (.int a2), some (.int a3), none], [], M3)) rfl (fun _ => ?_) (fun _ => ?_)
    · refine pm_irun 1 (σ' := (27, [some (.ref 0), some (.int a1), some (.int a2), some (.int a3), none], [.int (-2 : Int32)], M3)) rfl ?_
      exact pm_irI rfl rfl
    · refine pm_irun 1 (σ' := (19, [some (.ref 0), some (.int a1), some (.int a2), some (.int a3), none], [.int a3], M3)) rfl ?_
      refine pm_icI (as := [.int a3]) (rest := []) rfl rfl rfl rfl (Nat.le_of_ble_eq_true rfl) rfl (fun r h => pm_Ev_mono (Nat.le_of_ble_eq_true rfl) (sC_isTime_ok a3 M3 r h)) (fun v6 M5 => ?_)
      show pm_Im _ _ _ _ _ _ (22, [some (.ref 0), some (.int a1), some (.int a2), some (.int a3), none], [.int v6], M5)
      refine pm_iite (σ1 := (28, [some (.ref 0), some (.int a1), some (.int a2), some (.int a3), none], [], M5)) (σ2 := (25, [some (.ref 0), some (.int a1), some (.int a2), some (.int a3), none], [], M5)) rfl (fun _ => ?_) (fun _ => ?_)
      · refine pm_irun 8 (σ' := (40, [some (.ref 0), some (.int a1), some (.int a2), some (.int a3), none], [.int ((a2 * (5 : Int32)) + a1), .ref 3], M5)) rfl ?_
        refine pm_igd (σ1 := (41, [some (.ref 0), some (.int a1), some (.int a2), some (.int a3), none], [.int (M5.1 3 ((a2 * (5 : Int32)) + a1).toNatClampNeg)], M5)) rfl (fun _ => ?_)
        refine pm_irun 1 (σ' := (43, [some (.ref 0), some (.int a1), some (.int a2), some (.int a3), some (.int (M5.1 3 ((a2 * (5 : Int32)) + a1).toNatClampNeg))], [], M5)) rfl ?_
        refine pm_ilt (fun y => (43, [some (.ref 0), some (.int a1), some (.int a2), some (.int a3), some (.int y)], [], M5)) (fun x7 => ?_)
        refine pm_irun 8 (σ' := (55, [some (.ref 0), some (.int a1), some (.int a2), some (.int a3), some (.int x7)], [.int ((a2 * (5 : Int32)) + a1), .ref 3], M5)) rfl ?_
        refine pm_irun 1 (σ' := (56, [some (.ref 0), some (.int a1), some (.int a2), some (.int a3), some (.int x7)], [.int a3, .int ((a2 * (5 : Int32)) + a1), .ref 3], M5)) rfl ?_
        refine pm_igd (σ1 := (57, [some (.ref 0), some (.int a1), some (.int a2), some (.int a3), some (.int x7)], [], (pm_sI M5 3 ((a2 * (5 : Int32)) + a1).toNatClampNeg a3))) rfl (fun _ => ?_)
        refine pm_ilt (fun y => (57, [some (.ref 0), some (.int a1), some (.int a2), some (.int a3), some (.int x7)], [], y)) (fun M8 => ?_)
        refine pm_irun 1 (σ' := (58, [some (.ref 0), some (.int a1), some (.int a2), some (.int a3), some (.int x7)], [.ref 0], M8)) rfl ?_
        refine pm_icV (as := [.ref 0]) (rest := []) rfl rfl rfl rfl (Nat.le_of_ble_eq_true rfl) rfl (fun r h => pm_Ev_mono (Nat.le_of_ble_eq_true rfl) (sC_netTold_ok M8 r h)) (fun M9 => ?_)
        show pm_Im _ _ _ _ _ _ (61, [some (.ref 0), some (.int a1), some (.int a2), some (.int a3), some (.int x7)], [], M9)
        refine pm_irun 1 (σ' := (63, [some (.ref 0), some (.int a1), some (.int a2), some (.int a3), some (.int x7)], [.int x7], M9)) rfl ?_
        exact pm_irI rfl rfl
      · refine pm_irun 1 (σ' := (27, [some (.ref 0), some (.int a1), some (.int a2), some (.int a3), none], [.int (-2 : Int32)], M5)) rfl ?_
        exact pm_irI rfl rfl
def sR_isStation (a1 : Int32) (M : pm_M) : Option (Int32 × pm_M) := pm_bd (sR_in (a1.toInt64) (0 : Int64) ((M.1 49 1) - (1 : Int32)).toInt64 M) fun v2 M1 => if v2 = 0 ∨ v2 = 1 then some (v2, M1) else none
abbrev I_R_isStation (sh : Option (Int32 × pm_M)) (σ : pm_St) : Prop := pm_Im none (pm_Ev 1) pm_T121 (some .boolean) pm_rI sh σ
set_option maxHeartbeats 4000000 in
set_option maxRecDepth 100000 in
theorem sR_isStation_ok (a1 : Int32) (M : pm_M) : ∀ r, sR_isStation a1 M = some r → pm_Ev 2 121 [.ref 49, .int a1] M (pm_rI r).1 (pm_rI r).2 := by
  refine pm_meth (al := [some (.ref 49), some (.int a1)]) rfl rfl rfl rfl rfl ?_
  unfold sR_isStation
  show I_R_isStation _ (0, [some (.ref 49), some (.int a1)], [], M)
  refine pm_irun 8 (σ' := (10, [some (.ref 49), some (.int a1)], [.long ((M.1 49 1) - (1 : Int32)).toInt64, .long (0 : Int64), .long a1.toInt64], M)) rfl ?_
  refine pm_icI (as := [.long a1.toInt64, .long (0 : Int64), .long ((M.1 49 1) - (1 : Int32)).toInt64]) (rest := []) rfl rfl rfl rfl (Nat.le_of_ble_eq_true rfl) rfl (fun r h => pm_Ev_mono (Nat.le_of_ble_eq_true rfl) (sR_in_ok (a1.toInt64) (0 : Int64) ((M.1 49 1) - (1 : Int32)).toInt64 M r h)) (fun v2 M1 => ?_)
  show pm_Im _ _ _ _ _ _ (13, [some (.ref 49), some (.int a1)], [.int v2], M1)
  exact pm_irZg rfl rfl
def sR_isPart (a1 : Int32) (M : pm_M) : Option (Int32 × pm_M) := pm_bd (sR_in (a1.toInt64) (0 : Int64) (1 : Int64) M) fun v2 M1 => if v2 = 0 ∨ v2 = 1 then some (v2, M1) else none
abbrev I_R_isPart (sh : Option (Int32 × pm_M)) (σ : pm_St) : Prop := pm_Im none (pm_Ev 1) pm_T122 (some .boolean) pm_rI sh σ
set_option maxHeartbeats 4000000 in
set_option maxRecDepth 100000 in
theorem sR_isPart_ok (a1 : Int32) (M : pm_M) : ∀ r, sR_isPart a1 M = some r → pm_Ev 2 122 [.int a1] M (pm_rI r).1 (pm_rI r).2 := by
  refine pm_meth (al := [some (.int a1)]) rfl rfl rfl rfl rfl ?_
  unfold sR_isPart
  show I_R_isPart _ (0, [some (.int a1)], [], M)
  refine pm_irun 4 (σ' := (4, [some (.int a1)], [.long (1 : Int64), .long (0 : Int64), .long a1.toInt64], M)) rfl ?_
  refine pm_icI (as := [.long a1.toInt64, .long (0 : Int64), .long (1 : Int64)]) (rest := []) rfl rfl rfl rfl (Nat.le_of_ble_eq_true rfl) rfl (fun r h => pm_Ev_mono (Nat.le_of_ble_eq_true rfl) (sR_in_ok (a1.toInt64) (0 : Int64) (1 : Int64) M r h)) (fun v2 M1 => ?_)
  show pm_Im _ _ _ _ _ _ (7, [some (.int a1)], [.int v2], M1)
  exact pm_irZg rfl rfl
def sR_time (a1 : Int32) (a2 : Int32) (a3 : Int32) (M : pm_M) : Option (Int32 × pm_M) := pm_bd (sR_isStation a1 M) fun v2 M1 => if v2 = 0 then (some ((-2 : Int32), M1)) else (pm_bd (sR_isPart a2 M1) fun v4 M3 => if v4 = 0 then (some ((-2 : Int32), M3)) else (pm_bd (sR_in (a3.toInt64) (1 : Int64) (9 : Int64) M3) fun v6 M5 => if ¬ v6 = 0 then (if pm_in (((5 : Int32) * a2) + a1) 10 then (pm_lt ((M5.1 51 (((5 : Int32) * a2) + a1).toNatClampNeg)) fun x7 => if pm_in (((5 : Int32) * a2) + a1) 10 then (pm_lt (pm_sI M5 51 (((5 : Int32) * a2) + a1).toNatClampNeg a3) fun M8 => pm_bv (sR_ends M8) fun M9 => some (x7, M9)) else none) else none) else (some ((-2 : Int32), M5))))
abbrev I_R_time (sh : Option (Int32 × pm_M)) (σ : pm_St) : Prop := pm_Im none (pm_Ev 2) pm_T125 (some .int) pm_rI sh σ
set_option maxHeartbeats 4000000 in
set_option maxRecDepth 100000 in
theorem sR_time_ok (a1 : Int32) (a2 : Int32) (a3 : Int32) (M : pm_M) : ∀ r, sR_time a1 a2 a3 M = some r → pm_Ev 3 125 [.ref 49, .int a1, .int a2, .int a3] M (pm_rI r).1 (pm_rI r).2 := by
  refine pm_meth (al := [some (.ref 49), some (.int a1), some (.int a2), some (.int a3), none]) rfl rfl rfl rfl rfl ?_
  unfold sR_time
  show I_R_time _ (0, [some (.ref 49), some (.int a1), some (.int a2), some (.int a3), none], [], M)
  refine pm_irun 2 (σ' := (2, [some (.ref 49), some (.int a1), some (.int a2), some (.int a3), none], [.int a1, .ref 49], M)) rfl ?_
  refine pm_icI (as := [.ref 49, .int a1]) (rest := []) rfl rfl rfl rfl (Nat.le_of_ble_eq_true rfl) rfl (fun r h => pm_Ev_mono (Nat.le_of_ble_eq_true rfl) (sR_isStation_ok a1 M r h)) (fun v2 M1 => ?_)
  show pm_Im _ _ _ _ _ _ (5, [some (.ref 49), some (.int a1), some (.int a2), some (.int a3), none], [.int v2], M1)
  refine pm_iite (σ1 := (27, [some (.ref 49), some (.int a1), some (.int a2), some (.int a3), none], [], M1)) (σ2 := (8, [some (.ref 49), some (.int a1), some (.int a2), some (.int a3), none], [], M1)) rfl (fun _ => ?_) (fun _ => ?_)
  · refine pm_irun 1 (σ' := (29, [some (.ref 49), some (.int a1), some (.int a2), some (.int a3), none], [.int (-2 : Int32)], M1)) rfl ?_
    exact pm_irI rfl rfl
  · refine pm_irun 1 (σ' := (9, [some (.ref 49), some (.int a1), some (.int a2), some (.int a3), none], [.int a2], M1)) rfl ?_
    refine pm_icI (as := [.int a2]) (rest := []) rfl rfl rfl rfl (Nat.le_of_ble_eq_true rfl) rfl (fun r h => pm_Ev_mono (Nat.le_of_ble_eq_true rfl) (sR_isPart_ok a2 M1 r h)) (fun v4 M3 => ?_)
    show pm_Im _ _ _ _ _ _ (12, [some (.ref 49), some (.int a1), some (.int a2), some (.int a3), none], [.int v4], M3)
    refine pm_iite (σ1 := (27, [some (.ref 49), some (.int a1), some (.int a2), some (.int a3), none], [], M3)) (σ2 := (15, [some (.ref 49), some (.int a1), some (.int a2), some (.int a3), none], [], M3)) rfl (fun _ => ?_) (fun _ => ?_)
    · refine pm_irun 1 (σ' := (29, [some (.ref 49), some (.int a1), some (.int a2), some (.int a3), none], [.int (-2 : Int32)], M3)) rfl ?_
      exact pm_irI rfl rfl
    · refine pm_irun 4 (σ' := (21, [some (.ref 49), some (.int a1), some (.int a2), some (.int a3), none], [.long (9 : Int64), .long (1 : Int64), .long a3.toInt64], M3)) rfl ?_
      refine pm_icI (as := [.long a3.toInt64, .long (1 : Int64), .long (9 : Int64)]) (rest := []) rfl rfl rfl rfl (Nat.le_of_ble_eq_true rfl) rfl (fun r h => pm_Ev_mono (Nat.le_of_ble_eq_true rfl) (sR_in_ok (a3.toInt64) (1 : Int64) (9 : Int64) M3 r h)) (fun v6 M5 => ?_)
      show pm_Im _ _ _ _ _ _ (24, [some (.ref 49), some (.int a1), some (.int a2), some (.int a3), none], [.int v6], M5)
      refine pm_iite (σ1 := (30, [some (.ref 49), some (.int a1), some (.int a2), some (.int a3), none], [], M5)) (σ2 := (27, [some (.ref 49), some (.int a1), some (.int a2), some (.int a3), none], [], M5)) rfl (fun _ => ?_) (fun _ => ?_)
      · refine pm_irun 7 (σ' := (39, [some (.ref 49), some (.int a1), some (.int a2), some (.int a3), none], [.int (((5 : Int32) * a2) + a1), .ref 51], M5)) rfl ?_
        refine pm_igd (σ1 := (40, [some (.ref 49), some (.int a1), some (.int a2), some (.int a3), none], [.int (M5.1 51 (((5 : Int32) * a2) + a1).toNatClampNeg)], M5)) rfl (fun _ => ?_)
        refine pm_irun 1 (σ' := (42, [some (.ref 49), some (.int a1), some (.int a2), some (.int a3), some (.int (M5.1 51 (((5 : Int32) * a2) + a1).toNatClampNeg))], [], M5)) rfl ?_
        refine pm_ilt (fun y => (42, [some (.ref 49), some (.int a1), some (.int a2), some (.int a3), some (.int y)], [], M5)) (fun x7 => ?_)
        refine pm_irun 8 (σ' := (52, [some (.ref 49), some (.int a1), some (.int a2), some (.int a3), some (.int x7)], [.int a3, .int (((5 : Int32) * a2) + a1), .ref 51], M5)) rfl ?_
        refine pm_igd (σ1 := (53, [some (.ref 49), some (.int a1), some (.int a2), some (.int a3), some (.int x7)], [], (pm_sI M5 51 (((5 : Int32) * a2) + a1).toNatClampNeg a3))) rfl (fun _ => ?_)
        refine pm_ilt (fun y => (53, [some (.ref 49), some (.int a1), some (.int a2), some (.int a3), some (.int x7)], [], y)) (fun M8 => ?_)
        refine pm_irun 1 (σ' := (54, [some (.ref 49), some (.int a1), some (.int a2), some (.int a3), some (.int x7)], [.ref 49], M8)) rfl ?_
        refine pm_icV (as := [.ref 49]) (rest := []) rfl rfl rfl rfl (Nat.le_of_ble_eq_true rfl) rfl (fun r h => pm_Ev_mono (Nat.le_of_ble_eq_true rfl) (sR_ends_ok M8 r h)) (fun M9 => ?_)
        show pm_Im _ _ _ _ _ _ (57, [some (.ref 49), some (.int a1), some (.int a2), some (.int a3), some (.int x7)], [], M9)
        refine pm_irun 1 (σ' := (59, [some (.ref 49), some (.int a1), some (.int a2), some (.int a3), some (.int x7)], [.int x7], M9)) rfl ?_
        exact pm_irI rfl rfl
      · refine pm_irun 1 (σ' := (29, [some (.ref 49), some (.int a1), some (.int a2), some (.int a3), none], [.int (-2 : Int32)], M5)) rfl ?_
        exact pm_irI rfl rfl
def sC_becomes (a1 : Int32) (a2 : Int32) (M : pm_M) : Option (Int32 × pm_M) := pm_bd (sNet_hasStation_1 a1 M) fun v2 M1 => if v2 = 0 then (some ((-2 : Int32), M1)) else (pm_bd (sC_isKind a2 M1) fun v4 M3 => if ¬ v4 = 0 then (if pm_in a1 5 then (pm_lt ((M3.1 2 a1.toNatClampNeg)) fun x5 => if pm_in a1 5 then (pm_lt (pm_sI M3 2 a1.toNatClampNeg a2) fun M6 => pm_bv (sC_netTold M6) fun M7 => some (x5, M7)) else none) else none) else (some ((-2 : Int32), M3)))
abbrev I_C_becomes (sh : Option (Int32 × pm_M)) (σ : pm_St) : Prop := pm_Im none (pm_Ev 4) pm_T59 (some .int) pm_rI sh σ
set_option maxHeartbeats 4000000 in
set_option maxRecDepth 100000 in
theorem sC_becomes_ok (a1 : Int32) (a2 : Int32) (M : pm_M) : ∀ r, sC_becomes a1 a2 M = some r → pm_Ev 5 59 [.ref 0, .int a1, .int a2] M (pm_rI r).1 (pm_rI r).2 := by
  refine pm_meth (al := [some (.ref 0), some (.int a1), some (.int a2), none]) rfl rfl rfl rfl rfl ?_
  unfold sC_becomes
  show I_C_becomes _ (0, [some (.ref 0), some (.int a1), some (.int a2), none], [], M)
  refine pm_irun 3 (σ' := (5, [some (.ref 0), some (.int a1), some (.int a2), none], [.int a1, .ref 1], M)) rfl ?_
  refine pm_icI (as := [.ref 1, .int a1]) (rest := []) rfl rfl rfl rfl (Nat.le_of_ble_eq_true rfl) rfl (fun r h => pm_Ev_mono (Nat.le_of_ble_eq_true rfl) (sNet_hasStation_1_ok a1 M r h)) (fun v2 M1 => ?_)
  show pm_Im _ _ _ _ _ _ (8, [some (.ref 0), some (.int a1), some (.int a2), none], [.int v2], M1)
  refine pm_iite (σ1 := (18, [some (.ref 0), some (.int a1), some (.int a2), none], [], M1)) (σ2 := (11, [some (.ref 0), some (.int a1), some (.int a2), none], [], M1)) rfl (fun _ => ?_) (fun _ => ?_)
  · refine pm_irun 1 (σ' := (20, [some (.ref 0), some (.int a1), some (.int a2), none], [.int (-2 : Int32)], M1)) rfl ?_
    exact pm_irI rfl rfl
  · refine pm_irun 1 (σ' := (12, [some (.ref 0), some (.int a1), some (.int a2), none], [.int a2], M1)) rfl ?_
    refine pm_icI (as := [.int a2]) (rest := []) rfl rfl rfl rfl (Nat.le_of_ble_eq_true rfl) rfl (fun r h => pm_Ev_mono (Nat.le_of_ble_eq_true rfl) (sC_isKind_ok a2 M1 r h)) (fun v4 M3 => ?_)
    show pm_Im _ _ _ _ _ _ (15, [some (.ref 0), some (.int a1), some (.int a2), none], [.int v4], M3)
    refine pm_iite (σ1 := (21, [some (.ref 0), some (.int a1), some (.int a2), none], [], M3)) (σ2 := (18, [some (.ref 0), some (.int a1), some (.int a2), none], [], M3)) rfl (fun _ => ?_) (fun _ => ?_)
    · refine pm_irun 4 (σ' := (29, [some (.ref 0), some (.int a1), some (.int a2), none], [.int a1, .ref 2], M3)) rfl ?_
      refine pm_igd (σ1 := (30, [some (.ref 0), some (.int a1), some (.int a2), none], [.int (M3.1 2 a1.toNatClampNeg)], M3)) rfl (fun _ => ?_)
      refine pm_irun 1 (σ' := (31, [some (.ref 0), some (.int a1), some (.int a2), some (.int (M3.1 2 a1.toNatClampNeg))], [], M3)) rfl ?_
      refine pm_ilt (fun y => (31, [some (.ref 0), some (.int a1), some (.int a2), some (.int y)], [], M3)) (fun x5 => ?_)
      refine pm_irun 5 (σ' := (40, [some (.ref 0), some (.int a1), some (.int a2), some (.int x5)], [.int a2, .int a1, .ref 2], M3)) rfl ?_
      refine pm_igd (σ1 := (41, [some (.ref 0), some (.int a1), some (.int a2), some (.int x5)], [], (pm_sI M3 2 a1.toNatClampNeg a2))) rfl (fun _ => ?_)
      refine pm_ilt (fun y => (41, [some (.ref 0), some (.int a1), some (.int a2), some (.int x5)], [], y)) (fun M6 => ?_)
      refine pm_irun 1 (σ' := (42, [some (.ref 0), some (.int a1), some (.int a2), some (.int x5)], [.ref 0], M6)) rfl ?_
      refine pm_icV (as := [.ref 0]) (rest := []) rfl rfl rfl rfl (Nat.le_of_ble_eq_true rfl) rfl (fun r h => pm_Ev_mono (Nat.le_of_ble_eq_true rfl) (sC_netTold_ok M6 r h)) (fun M7 => ?_)
      show pm_Im _ _ _ _ _ _ (45, [some (.ref 0), some (.int a1), some (.int a2), some (.int x5)], [], M7)
      refine pm_irun 1 (σ' := (46, [some (.ref 0), some (.int a1), some (.int a2), some (.int x5)], [.int x5], M7)) rfl ?_
      exact pm_irI rfl rfl
    · refine pm_irun 1 (σ' := (20, [some (.ref 0), some (.int a1), some (.int a2), none], [.int (-2 : Int32)], M3)) rfl ?_
      exact pm_irI rfl rfl
def sR_becomes (a1 : Int32) (a2 : Int32) (M : pm_M) : Option (Int32 × pm_M) := pm_bd (sR_isStation a1 M) fun v2 M1 => if v2 = 0 then (some ((-2 : Int32), M1)) else (pm_bd (sR_in (a2.toInt64) (0 : Int64) (3 : Int64) M1) fun v4 M3 => if ¬ v4 = 0 then (if pm_in a1 5 then (pm_lt ((M3.1 50 a1.toNatClampNeg)) fun x5 => if pm_in a1 5 then (pm_lt (pm_sI M3 50 a1.toNatClampNeg a2) fun M6 => pm_bv (sR_ends M6) fun M7 => some (x5, M7)) else none) else none) else (some ((-2 : Int32), M3)))
abbrev I_R_becomes (sh : Option (Int32 × pm_M)) (σ : pm_St) : Prop := pm_Im none (pm_Ev 2) pm_T126 (some .int) pm_rI sh σ
set_option maxHeartbeats 4000000 in
set_option maxRecDepth 100000 in
theorem sR_becomes_ok (a1 : Int32) (a2 : Int32) (M : pm_M) : ∀ r, sR_becomes a1 a2 M = some r → pm_Ev 3 126 [.ref 49, .int a1, .int a2] M (pm_rI r).1 (pm_rI r).2 := by
  refine pm_meth (al := [some (.ref 49), some (.int a1), some (.int a2), none]) rfl rfl rfl rfl rfl ?_
  unfold sR_becomes
  show I_R_becomes _ (0, [some (.ref 49), some (.int a1), some (.int a2), none], [], M)
  refine pm_irun 2 (σ' := (2, [some (.ref 49), some (.int a1), some (.int a2), none], [.int a1, .ref 49], M)) rfl ?_
  refine pm_icI (as := [.ref 49, .int a1]) (rest := []) rfl rfl rfl rfl (Nat.le_of_ble_eq_true rfl) rfl (fun r h => pm_Ev_mono (Nat.le_of_ble_eq_true rfl) (sR_isStation_ok a1 M r h)) (fun v2 M1 => ?_)
  show pm_Im _ _ _ _ _ _ (5, [some (.ref 49), some (.int a1), some (.int a2), none], [.int v2], M1)
  refine pm_iite (σ1 := (20, [some (.ref 49), some (.int a1), some (.int a2), none], [], M1)) (σ2 := (8, [some (.ref 49), some (.int a1), some (.int a2), none], [], M1)) rfl (fun _ => ?_) (fun _ => ?_)
  · refine pm_irun 1 (σ' := (22, [some (.ref 49), some (.int a1), some (.int a2), none], [.int (-2 : Int32)], M1)) rfl ?_
    exact pm_irI rfl rfl
  · refine pm_irun 4 (σ' := (14, [some (.ref 49), some (.int a1), some (.int a2), none], [.long (3 : Int64), .long (0 : Int64), .long a2.toInt64], M1)) rfl ?_
    refine pm_icI (as := [.long a2.toInt64, .long (0 : Int64), .long (3 : Int64)]) (rest := []) rfl rfl rfl rfl (Nat.le_of_ble_eq_true rfl) rfl (fun r h => pm_Ev_mono (Nat.le_of_ble_eq_true rfl) (sR_in_ok (a2.toInt64) (0 : Int64) (3 : Int64) M1 r h)) (fun v4 M3 => ?_)
    show pm_Im _ _ _ _ _ _ (17, [some (.ref 49), some (.int a1), some (.int a2), none], [.int v4], M3)
    refine pm_iite (σ1 := (23, [some (.ref 49), some (.int a1), some (.int a2), none], [], M3)) (σ2 := (20, [some (.ref 49), some (.int a1), some (.int a2), none], [], M3)) rfl (fun _ => ?_) (fun _ => ?_)
    · refine pm_irun 3 (σ' := (28, [some (.ref 49), some (.int a1), some (.int a2), none], [.int a1, .ref 50], M3)) rfl ?_
      refine pm_igd (σ1 := (29, [some (.ref 49), some (.int a1), some (.int a2), none], [.int (M3.1 50 a1.toNatClampNeg)], M3)) rfl (fun _ => ?_)
      refine pm_irun 1 (σ' := (30, [some (.ref 49), some (.int a1), some (.int a2), some (.int (M3.1 50 a1.toNatClampNeg))], [], M3)) rfl ?_
      refine pm_ilt (fun y => (30, [some (.ref 49), some (.int a1), some (.int a2), some (.int y)], [], M3)) (fun x5 => ?_)
      refine pm_irun 4 (σ' := (36, [some (.ref 49), some (.int a1), some (.int a2), some (.int x5)], [.int a2, .int a1, .ref 50], M3)) rfl ?_
      refine pm_igd (σ1 := (37, [some (.ref 49), some (.int a1), some (.int a2), some (.int x5)], [], (pm_sI M3 50 a1.toNatClampNeg a2))) rfl (fun _ => ?_)
      refine pm_ilt (fun y => (37, [some (.ref 49), some (.int a1), some (.int a2), some (.int x5)], [], y)) (fun M6 => ?_)
      refine pm_irun 1 (σ' := (38, [some (.ref 49), some (.int a1), some (.int a2), some (.int x5)], [.ref 49], M6)) rfl ?_
      refine pm_icV (as := [.ref 49]) (rest := []) rfl rfl rfl rfl (Nat.le_of_ble_eq_true rfl) rfl (fun r h => pm_Ev_mono (Nat.le_of_ble_eq_true rfl) (sR_ends_ok M6 r h)) (fun M7 => ?_)
      show pm_Im _ _ _ _ _ _ (41, [some (.ref 49), some (.int a1), some (.int a2), some (.int x5)], [], M7)
      refine pm_irun 1 (σ' := (42, [some (.ref 49), some (.int a1), some (.int a2), some (.int x5)], [.int x5], M7)) rfl ?_
      exact pm_irI rfl rfl
    · refine pm_irun 1 (σ' := (22, [some (.ref 49), some (.int a1), some (.int a2), none], [.int (-2 : Int32)], M3)) rfl ?_
      exact pm_irI rfl rfl
def sNet_setWeight_1 (a1 : Int32) (a2 : Int32) (a3 : Int32) (a4 : Int32) (M : pm_M) : Option (pm_M) := if pm_in ((((a1 * (5 : Int32)) + a2) * (5 : Int32)) + a3) 50 then (pm_lt (pm_sI M 6 ((((a1 * (5 : Int32)) + a2) * (5 : Int32)) + a3).toNatClampNeg a4) fun M1 => some M1) else none
abbrev I_Net_setWeight_1 (sh : Option (pm_M)) (σ : pm_St) : Prop := pm_Im none (pm_Ev 0) pm_T4 none pm_rV sh σ
set_option maxHeartbeats 4000000 in
set_option maxRecDepth 100000 in
theorem sNet_setWeight_1_ok (a1 : Int32) (a2 : Int32) (a3 : Int32) (a4 : Int32) (M : pm_M) : ∀ r, sNet_setWeight_1 a1 a2 a3 a4 M = some r → pm_Ev 1 4 [.ref 1, .int a1, .int a2, .int a3, .int a4] M (pm_rV r).1 (pm_rV r).2 := by
  refine pm_meth (al := [some (.ref 1), some (.int a1), some (.int a2), some (.int a3), some (.int a4)]) rfl rfl rfl rfl rfl ?_
  unfold sNet_setWeight_1
  show I_Net_setWeight_1 _ (0, [some (.ref 1), some (.int a1), some (.int a2), some (.int a3), some (.int a4)], [], M)
  refine pm_irun 8 (σ' := (10, [some (.ref 1), some (.int a1), some (.int a2), some (.int a3), some (.int a4)], [.int (5 : Int32), .int ((a1 * (5 : Int32)) + a2), .ref 6], M)) rfl ?_
  refine pm_irun 4 (σ' := (15, [some (.ref 1), some (.int a1), some (.int a2), some (.int a3), some (.int a4)], [.int a4, .int ((((a1 * (5 : Int32)) + a2) * (5 : Int32)) + a3), .ref 6], M)) rfl ?_
  refine pm_igd (σ1 := (16, [some (.ref 1), some (.int a1), some (.int a2), some (.int a3), some (.int a4)], [], (pm_sI M 6 ((((a1 * (5 : Int32)) + a2) * (5 : Int32)) + a3).toNatClampNeg a4))) rfl (fun _ => ?_)
  refine pm_ilt (fun y => (16, [some (.ref 1), some (.int a1), some (.int a2), some (.int a3), some (.int a4)], [], y)) (fun M1 => ?_)
  exact pm_irV rfl rfl
def sC_route (a1 : Int32) (a2 : Int32) (a3 : Int32) (a4 : Int32) (M : pm_M) : Option (Int32 × pm_M) := pm_bd (sC_isClass a1 M) fun v2 M1 => if v2 = 0 then (some ((-2 : Int32), M1)) else (pm_bd (sNet_hasStation_1 a2 M1) fun v4 M3 => if v4 = 0 then (some ((-2 : Int32), M3)) else (pm_bd (sNet_hasStation_1 a3 M3) fun v6 M5 => if ¬ v6 = 0 then (if a4 < 0 then (some ((-2 : Int32), M5)) else (if a4 ≤ (9 : Int32) then (pm_bd (sNet_weightOf_1 a1 a2 a3 M5) fun v8 M7 => pm_bv (sNet_setWeight_1 a1 a2 a3 a4 M7) fun M9 => pm_bv (sC_netTold M9) fun M10 => some (v8, M10)) else (some ((-2 : Int32), M5)))) else (some ((-2 : Int32), M5))))
abbrev I_C_route (sh : Option (Int32 × pm_M)) (σ : pm_St) : Prop := pm_Im none (pm_Ev 4) pm_T60 (some .int) pm_rI sh σ
set_option maxHeartbeats 4000000 in
set_option maxRecDepth 100000 in
theorem sC_route_ok (a1 : Int32) (a2 : Int32) (a3 : Int32) (a4 : Int32) (M : pm_M) : ∀ r, sC_route a1 a2 a3 a4 M = some r → pm_Ev 5 60 [.ref 0, .int a1, .int a2, .int a3, .int a4] M (pm_rI r).1 (pm_rI r).2 := by
  refine pm_meth (al := [some (.ref 0), some (.int a1), some (.int a2), some (.int a3), some (.int a4), none]) rfl rfl rfl rfl rfl ?_
  unfold sC_route
  show I_C_route _ (0, [some (.ref 0), some (.int a1), some (.int a2), some (.int a3), some (.int a4), none], [], M)
  refine pm_irun 1 (σ' := (1, [some (.ref 0), some (.int a1), some (.int a2), some (.int a3), some (.int a4), none], [.int a1], M)) rfl ?_
  refine pm_icI (as := [.int a1]) (rest := []) rfl rfl rfl rfl (Nat.le_of_ble_eq_true rfl) rfl (fun r h => pm_Ev_mono (Nat.le_of_ble_eq_true rfl) (sC_isClass_ok a1 M r h)) (fun v2 M1 => ?_)
  show pm_Im _ _ _ _ _ _ (4, [some (.ref 0), some (.int a1), some (.int a2), some (.int a3), some (.int a4), none], [.int v2], M1)
  refine pm_iite (σ1 := (29, [some (.ref 0), some (.int a1), some (.int a2), some (.int a3), some (.int a4), none], [], M1)) (σ2 := (7, [some (.ref 0), some (.int a1), some (.int a2), some (.int a3), some (.int a4), none], [], M1)) rfl (fun _ => ?_) (fun _ => ?_)
  · refine pm_irun 1 (σ' := (31, [some (.ref 0), some (.int a1), some (.int a2), some (.int a3), some (.int a4), none], [.int (-2 : Int32)], M1)) rfl ?_
    exact pm_irI rfl rfl
  · refine pm_irun 3 (σ' := (12, [some (.ref 0), some (.int a1), some (.int a2), some (.int a3), some (.int a4), none], [.int a2, .ref 1], M1)) rfl ?_
    refine pm_icI (as := [.ref 1, .int a2]) (rest := []) rfl rfl rfl rfl (Nat.le_of_ble_eq_true rfl) rfl (fun r h => pm_Ev_mono (Nat.le_of_ble_eq_true rfl) (sNet_hasStation_1_ok a2 M1 r h)) (fun v4 M3 => ?_)
    show pm_Im _ _ _ _ _ _ (15, [some (.ref 0), some (.int a1), some (.int a2), some (.int a3), some (.int a4), none], [.int v4], M3)
    refine pm_iite (σ1 := (29, [some (.ref 0), some (.int a1), some (.int a2), some (.int a3), some (.int a4), none], [], M3)) (σ2 := (18, [some (.ref 0), some (.int a1), some (.int a2), some (.int a3), some (.int a4), none], [], M3)) rfl (fun _ => ?_) (fun _ => ?_)
    · refine pm_irun 1 (σ' := (31, [some (.ref 0), some (.int a1), some (.int a2), some (.int a3), some (.int a4), none], [.int (-2 : Int32)], M3)) rfl ?_
      exact pm_irI rfl rfl
    · refine pm_irun 3 (σ' := (23, [some (.ref 0), some (.int a1), some (.int a2), some (.int a3), some (.int a4), none], [.int a3, .ref 1], M3)) rfl ?_
      refine pm_icI (as := [.ref 1, .int a3]) (rest := []) rfl rfl rfl rfl (Nat.le_of_ble_eq_true rfl) rfl (fun r h => pm_Ev_mono (Nat.le_of_ble_eq_true rfl) (sNet_hasStation_1_ok a3 M3 r h)) (fun v6 M5 => ?_)
      show pm_Im _ _ _ _ _ _ (26, [some (.ref 0), some (.int a1), some (.int a2), some (.int a3), some (.int a4), none], [.int v6], M5)
      refine pm_iite (σ1 := (32, [some (.ref 0), some (.int a1), some (.int a2), some (.int a3), some (.int a4), none], [], M5)) (σ2 := (29, [some (.ref 0), some (.int a1), some (.int a2), some (.int a3), some (.int a4), none], [], M5)) rfl (fun _ => ?_) (fun _ => ?_)
      · refine pm_irun 1 (σ' := (34, [some (.ref 0), some (.int a1), some (.int a2), some (.int a3), some (.int a4), none], [.int a4], M5)) rfl ?_
        refine pm_iite (σ1 := (44, [some (.ref 0), some (.int a1), some (.int a2), some (.int a3), some (.int a4), none], [], M5)) (σ2 := (37, [some (.ref 0), some (.int a1), some (.int a2), some (.int a3), some (.int a4), none], [], M5)) rfl (fun _ => ?_) (fun _ => ?_)
        · refine pm_irun 1 (σ' := (46, [some (.ref 0), some (.int a1), some (.int a2), some (.int a3), some (.int a4), none], [.int (-2 : Int32)], M5)) rfl ?_
          exact pm_irI rfl rfl
        · refine pm_irun 2 (σ' := (41, [some (.ref 0), some (.int a1), some (.int a2), some (.int a3), some (.int a4), none], [.int (9 : Int32), .int a4], M5)) rfl ?_
          refine pm_iite (σ1 := (47, [some (.ref 0), some (.int a1), some (.int a2), some (.int a3), some (.int a4), none], [], M5)) (σ2 := (44, [some (.ref 0), some (.int a1), some (.int a2), some (.int a3), some (.int a4), none], [], M5)) rfl (fun _ => ?_) (fun _ => ?_)
          · refine pm_irun 5 (σ' := (54, [some (.ref 0), some (.int a1), some (.int a2), some (.int a3), some (.int a4), none], [.int a3, .int a2, .int a1, .ref 1], M5)) rfl ?_
            refine pm_icI (as := [.ref 1, .int a1, .int a2, .int a3]) (rest := []) rfl rfl rfl rfl (Nat.le_of_ble_eq_true rfl) rfl (fun r h => pm_Ev_mono (Nat.le_of_ble_eq_true rfl) (sNet_weightOf_1_ok a1 a2 a3 M5 r h)) (fun v8 M7 => ?_)
            show pm_Im _ _ _ _ _ _ (57, [some (.ref 0), some (.int a1), some (.int a2), some (.int a3), some (.int a4), none], [.int v8], M7)
            refine pm_irun 1 (σ' := (59, [some (.ref 0), some (.int a1), some (.int a2), some (.int a3), some (.int a4), some (.int v8)], [], M7)) rfl ?_
            refine pm_irun 6 (σ' := (68, [some (.ref 0), some (.int a1), some (.int a2), some (.int a3), some (.int a4), some (.int v8)], [.int a4, .int a3, .int a2, .int a1, .ref 1], M7)) rfl ?_
            refine pm_icV (as := [.ref 1, .int a1, .int a2, .int a3, .int a4]) (rest := []) rfl rfl rfl rfl (Nat.le_of_ble_eq_true rfl) rfl (fun r h => pm_Ev_mono (Nat.le_of_ble_eq_true rfl) (sNet_setWeight_1_ok a1 a2 a3 a4 M7 r h)) (fun M9 => ?_)
            show pm_Im _ _ _ _ _ _ (71, [some (.ref 0), some (.int a1), some (.int a2), some (.int a3), some (.int a4), some (.int v8)], [], M9)
            refine pm_irun 1 (σ' := (72, [some (.ref 0), some (.int a1), some (.int a2), some (.int a3), some (.int a4), some (.int v8)], [.ref 0], M9)) rfl ?_
            refine pm_icV (as := [.ref 0]) (rest := []) rfl rfl rfl rfl (Nat.le_of_ble_eq_true rfl) rfl (fun r h => pm_Ev_mono (Nat.le_of_ble_eq_true rfl) (sC_netTold_ok M9 r h)) (fun M10 => ?_)
            show pm_Im _ _ _ _ _ _ (75, [some (.ref 0), some (.int a1), some (.int a2), some (.int a3), some (.int a4), some (.int v8)], [], M10)
            refine pm_irun 1 (σ' := (77, [some (.ref 0), some (.int a1), some (.int a2), some (.int a3), some (.int a4), some (.int v8)], [.int v8], M10)) rfl ?_
            exact pm_irI rfl rfl
          · refine pm_irun 1 (σ' := (46, [some (.ref 0), some (.int a1), some (.int a2), some (.int a3), some (.int a4), none], [.int (-2 : Int32)], M5)) rfl ?_
            exact pm_irI rfl rfl
      · refine pm_irun 1 (σ' := (31, [some (.ref 0), some (.int a1), some (.int a2), some (.int a3), some (.int a4), none], [.int (-2 : Int32)], M5)) rfl ?_
        exact pm_irI rfl rfl
def sR_route (a1 : Int32) (a2 : Int32) (a3 : Int32) (a4 : Int32) (M : pm_M) : Option (Int32 × pm_M) := pm_bd (sR_isPart a1 M) fun v2 M1 => if v2 = 0 then (some ((-2 : Int32), M1)) else (pm_bd (sR_isStation a2 M1) fun v4 M3 => if v4 = 0 then (some ((-2 : Int32), M3)) else (pm_bd (sR_isStation a3 M3) fun v6 M5 => if v6 = 0 then (some ((-2 : Int32), M5)) else (pm_bd (sR_in (a4.toInt64) (0 : Int64) (9 : Int64) M5) fun v8 M7 => if ¬ v8 = 0 then (pm_bd (sR_routeAt a1 a2 a3 M7) fun v10 M9 => if pm_in v10 50 then (pm_lt ((M9.1 54 v10.toNatClampNeg)) fun x11 => pm_bd (sR_routeAt a1 a2 a3 M9) fun v13 M12 => if pm_in v13 50 then (pm_lt (pm_sI M12 54 v13.toNatClampNeg a4) fun M14 => pm_bv (sR_ends M14) fun M15 => some (x11, M15)) else none) else none) else (some ((-2 : Int32), M7)))))
abbrev I_R_route (sh : Option (Int32 × pm_M)) (σ : pm_St) : Prop := pm_Im none (pm_Ev 2) pm_T127 (some .int) pm_rI sh σ
set_option maxHeartbeats 4000000 in
set_option maxRecDepth 100000 in
theorem sR_route_ok (a1 : Int32) (a2 : Int32) (a3 : Int32) (a4 : Int32) (M : pm_M) : ∀ r, sR_route a1 a2 a3 a4 M = some r → pm_Ev 3 127 [.ref 49, .int a1, .int a2, .int a3, .int a4] M (pm_rI r).1 (pm_rI r).2 := by
  refine pm_meth (al := [some (.ref 49), some (.int a1), some (.int a2), some (.int a3), some (.int a4), none]) rfl rfl rfl rfl rfl ?_
  unfold sR_route
  show I_R_route _ (0, [some (.ref 49), some (.int a1), some (.int a2), some (.int a3), some (.int a4), none], [], M)
  refine pm_irun 1 (σ' := (1, [some (.ref 49), some (.int a1), some (.int a2), some (.int a3), some (.int a4), none], [.int a1], M)) rfl ?_
  refine pm_icI (as := [.int a1]) (rest := []) rfl rfl rfl rfl (Nat.le_of_ble_eq_true rfl) rfl (fun r h => pm_Ev_mono (Nat.le_of_ble_eq_true rfl) (sR_isPart_ok a1 M r h)) (fun v2 M1 => ?_)
  show pm_Im _ _ _ _ _ _ (4, [some (.ref 49), some (.int a1), some (.int a2), some (.int a3), some (.int a4), none], [.int v2], M1)
  refine pm_iite (σ1 := (36, [some (.ref 49), some (.int a1), some (.int a2), some (.int a3), some (.int a4), none], [], M1)) (σ2 := (7, [some (.ref 49), some (.int a1), some (.int a2), some (.int a3), some (.int a4), none], [], M1)) rfl (fun _ => ?_) (fun _ => ?_)
  · refine pm_irun 1 (σ' := (38, [some (.ref 49), some (.int a1), some (.int a2), some (.int a3), some (.int a4), none], [.int (-2 : Int32)], M1)) rfl ?_
    exact pm_irI rfl rfl
  · refine pm_irun 2 (σ' := (9, [some (.ref 49), some (.int a1), some (.int a2), some (.int a3), some (.int a4), none], [.int a2, .ref 49], M1)) rfl ?_
    refine pm_icI (as := [.ref 49, .int a2]) (rest := []) rfl rfl rfl rfl (Nat.le_of_ble_eq_true rfl) rfl (fun r h => pm_Ev_mono (Nat.le_of_ble_eq_true rfl) (sR_isStation_ok a2 M1 r h)) (fun v4 M3 => ?_)
    show pm_Im _ _ _ _ _ _ (12, [some (.ref 49), some (.int a1), some (.int a2), some (.int a3), some (.int a4), none], [.int v4], M3)
    refine pm_iite (σ1 := (36, [some (.ref 49), some (.int a1), some (.int a2), some (.int a3), some (.int a4), none], [], M3)) (σ2 := (15, [some (.ref 49), some (.int a1), some (.int a2), some (.int a3), some (.int a4), none], [], M3)) rfl (fun _ => ?_) (fun _ => ?_)
    · refine pm_irun 1 (σ' := (38, [some (.ref 49), some (.int a1), some (.int a2), some (.int a3), some (.int a4), none], [.int (-2 : Int32)], M3)) rfl ?_
      exact pm_irI rfl rfl
    · refine pm_irun 2 (σ' := (17, [some (.ref 49), some (.int a1), some (.int a2), some (.int a3), some (.int a4), none], [.int a3, .ref 49], M3)) rfl ?_
      refine pm_icI (as := [.ref 49, .int a3]) (rest := []) rfl rfl rfl rfl (Nat.le_of_ble_eq_true rfl) rfl (fun r h => pm_Ev_mono (Nat.le_of_ble_eq_true rfl) (sR_isStation_ok a3 M3 r h)) (fun v6 M5 => ?_)
      show pm_Im _ _ _ _ _ _ (20, [some (.ref 49), some (.int a1), some (.int a2), some (.int a3), some (.int a4), none], [.int v6], M5)
      refine pm_iite (σ1 := (36, [some (.ref 49), some (.int a1), some (.int a2), some (.int a3), some (.int a4), none], [], M5)) (σ2 := (23, [some (.ref 49), some (.int a1), some (.int a2), some (.int a3), some (.int a4), none], [], M5)) rfl (fun _ => ?_) (fun _ => ?_)
      · refine pm_irun 1 (σ' := (38, [some (.ref 49), some (.int a1), some (.int a2), some (.int a3), some (.int a4), none], [.int (-2 : Int32)], M5)) rfl ?_
        exact pm_irI rfl rfl
      · refine pm_irun 4 (σ' := (30, [some (.ref 49), some (.int a1), some (.int a2), some (.int a3), some (.int a4), none], [.long (9 : Int64), .long (0 : Int64), .long a4.toInt64], M5)) rfl ?_
        refine pm_icI (as := [.long a4.toInt64, .long (0 : Int64), .long (9 : Int64)]) (rest := []) rfl rfl rfl rfl (Nat.le_of_ble_eq_true rfl) rfl (fun r h => pm_Ev_mono (Nat.le_of_ble_eq_true rfl) (sR_in_ok (a4.toInt64) (0 : Int64) (9 : Int64) M5 r h)) (fun v8 M7 => ?_)
        show pm_Im _ _ _ _ _ _ (33, [some (.ref 49), some (.int a1), some (.int a2), some (.int a3), some (.int a4), none], [.int v8], M7)
        refine pm_iite (σ1 := (39, [some (.ref 49), some (.int a1), some (.int a2), some (.int a3), some (.int a4), none], [], M7)) (σ2 := (36, [some (.ref 49), some (.int a1), some (.int a2), some (.int a3), some (.int a4), none], [], M7)) rfl (fun _ => ?_) (fun _ => ?_)
        · refine pm_irun 5 (σ' := (46, [some (.ref 49), some (.int a1), some (.int a2), some (.int a3), some (.int a4), none], [.int a3, .int a2, .int a1, .ref 54], M7)) rfl ?_
          refine pm_icI (as := [.int a1, .int a2, .int a3]) (rest := [.ref 54]) rfl rfl rfl rfl (Nat.le_of_ble_eq_true rfl) rfl (fun r h => pm_Ev_mono (Nat.le_of_ble_eq_true rfl) (sR_routeAt_ok a1 a2 a3 M7 r h)) (fun v10 M9 => ?_)
          show pm_Im _ _ _ _ _ _ (49, [some (.ref 49), some (.int a1), some (.int a2), some (.int a3), some (.int a4), none], [.int v10, .ref 54], M9)
          refine pm_igd (σ1 := (50, [some (.ref 49), some (.int a1), some (.int a2), some (.int a3), some (.int a4), none], [.int (M9.1 54 v10.toNatClampNeg)], M9)) rfl (fun _ => ?_)
          refine pm_irun 1 (σ' := (52, [some (.ref 49), some (.int a1), some (.int a2), some (.int a3), some (.int a4), some (.int (M9.1 54 v10.toNatClampNeg))], [], M9)) rfl ?_
          refine pm_ilt (fun y => (52, [some (.ref 49), some (.int a1), some (.int a2), some (.int a3), some (.int a4), some (.int y)], [], M9)) (fun x11 => ?_)
          refine pm_irun 5 (σ' := (59, [some (.ref 49), some (.int a1), some (.int a2), some (.int a3), some (.int a4), some (.int x11)], [.int a3, .int a2, .int a1, .ref 54], M9)) rfl ?_
          refine pm_icI (as := [.int a1, .int a2, .int a3]) (rest := [.ref 54]) rfl rfl rfl rfl (Nat.le_of_ble_eq_true rfl) rfl (fun r h => pm_Ev_mono (Nat.le_of_ble_eq_true rfl) (sR_routeAt_ok a1 a2 a3 M9 r h)) (fun v13 M12 => ?_)
          show pm_Im _ _ _ _ _ _ (62, [some (.ref 49), some (.int a1), some (.int a2), some (.int a3), some (.int a4), some (.int x11)], [.int v13, .ref 54], M12)
          refine pm_irun 1 (σ' := (64, [some (.ref 49), some (.int a1), some (.int a2), some (.int a3), some (.int a4), some (.int x11)], [.int a4, .int v13, .ref 54], M12)) rfl ?_
          refine pm_igd (σ1 := (65, [some (.ref 49), some (.int a1), some (.int a2), some (.int a3), some (.int a4), some (.int x11)], [], (pm_sI M12 54 v13.toNatClampNeg a4))) rfl (fun _ => ?_)
          refine pm_ilt (fun y => (65, [some (.ref 49), some (.int a1), some (.int a2), some (.int a3), some (.int a4), some (.int x11)], [], y)) (fun M14 => ?_)
          refine pm_irun 1 (σ' := (66, [some (.ref 49), some (.int a1), some (.int a2), some (.int a3), some (.int a4), some (.int x11)], [.ref 49], M14)) rfl ?_
          refine pm_icV (as := [.ref 49]) (rest := []) rfl rfl rfl rfl (Nat.le_of_ble_eq_true rfl) rfl (fun r h => pm_Ev_mono (Nat.le_of_ble_eq_true rfl) (sR_ends_ok M14 r h)) (fun M15 => ?_)
          show pm_Im _ _ _ _ _ _ (69, [some (.ref 49), some (.int a1), some (.int a2), some (.int a3), some (.int a4), some (.int x11)], [], M15)
          refine pm_irun 1 (σ' := (71, [some (.ref 49), some (.int a1), some (.int a2), some (.int a3), some (.int a4), some (.int x11)], [.int x11], M15)) rfl ?_
          exact pm_irI rfl rfl
        · refine pm_irun 1 (σ' := (38, [some (.ref 49), some (.int a1), some (.int a2), some (.int a3), some (.int a4), none], [.int (-2 : Int32)], M7)) rfl ?_
          exact pm_irI rfl rfl
def sC_home (a1 : Int32) (a2 : Int32) (M : pm_M) : Option (Int32 × pm_M) := pm_bd (sC_isClass a1 M) fun v2 M1 => if v2 = 0 then (some ((-2 : Int32), M1)) else (pm_bd (sNet_hasStation_1 a2 M1) fun v4 M3 => if ¬ v4 = 0 then (if pm_in a1 2 then (pm_lt ((M3.1 4 a1.toNatClampNeg)) fun x5 => if pm_in a1 2 then (pm_lt (pm_sI M3 4 a1.toNatClampNeg a2) fun M6 => pm_bv (sC_netTold M6) fun M7 => some (x5, M7)) else none) else none) else (some ((-2 : Int32), M3)))
abbrev I_C_home (sh : Option (Int32 × pm_M)) (σ : pm_St) : Prop := pm_Im none (pm_Ev 4) pm_T61 (some .int) pm_rI sh σ
set_option maxHeartbeats 4000000 in
set_option maxRecDepth 100000 in
theorem sC_home_ok (a1 : Int32) (a2 : Int32) (M : pm_M) : ∀ r, sC_home a1 a2 M = some r → pm_Ev 5 61 [.ref 0, .int a1, .int a2] M (pm_rI r).1 (pm_rI r).2 := by
  refine pm_meth (al := [some (.ref 0), some (.int a1), some (.int a2), none]) rfl rfl rfl rfl rfl ?_
  unfold sC_home
  show I_C_home _ (0, [some (.ref 0), some (.int a1), some (.int a2), none], [], M)
  refine pm_irun 1 (σ' := (1, [some (.ref 0), some (.int a1), some (.int a2), none], [.int a1], M)) rfl ?_
  refine pm_icI (as := [.int a1]) (rest := []) rfl rfl rfl rfl (Nat.le_of_ble_eq_true rfl) rfl (fun r h => pm_Ev_mono (Nat.le_of_ble_eq_true rfl) (sC_isClass_ok a1 M r h)) (fun v2 M1 => ?_)
  show pm_Im _ _ _ _ _ _ (4, [some (.ref 0), some (.int a1), some (.int a2), none], [.int v2], M1)
  refine pm_iite (σ1 := (18, [some (.ref 0), some (.int a1), some (.int a2), none], [], M1)) (σ2 := (7, [some (.ref 0), some (.int a1), some (.int a2), none], [], M1)) rfl (fun _ => ?_) (fun _ => ?_)
  · refine pm_irun 1 (σ' := (20, [some (.ref 0), some (.int a1), some (.int a2), none], [.int (-2 : Int32)], M1)) rfl ?_
    exact pm_irI rfl rfl
  · refine pm_irun 3 (σ' := (12, [some (.ref 0), some (.int a1), some (.int a2), none], [.int a2, .ref 1], M1)) rfl ?_
    refine pm_icI (as := [.ref 1, .int a2]) (rest := []) rfl rfl rfl rfl (Nat.le_of_ble_eq_true rfl) rfl (fun r h => pm_Ev_mono (Nat.le_of_ble_eq_true rfl) (sNet_hasStation_1_ok a2 M1 r h)) (fun v4 M3 => ?_)
    show pm_Im _ _ _ _ _ _ (15, [some (.ref 0), some (.int a1), some (.int a2), none], [.int v4], M3)
    refine pm_iite (σ1 := (21, [some (.ref 0), some (.int a1), some (.int a2), none], [], M3)) (σ2 := (18, [some (.ref 0), some (.int a1), some (.int a2), none], [], M3)) rfl (fun _ => ?_) (fun _ => ?_)
    · refine pm_irun 4 (σ' := (29, [some (.ref 0), some (.int a1), some (.int a2), none], [.int a1, .ref 4], M3)) rfl ?_
      refine pm_igd (σ1 := (30, [some (.ref 0), some (.int a1), some (.int a2), none], [.int (M3.1 4 a1.toNatClampNeg)], M3)) rfl (fun _ => ?_)
      refine pm_irun 1 (σ' := (31, [some (.ref 0), some (.int a1), some (.int a2), some (.int (M3.1 4 a1.toNatClampNeg))], [], M3)) rfl ?_
      refine pm_ilt (fun y => (31, [some (.ref 0), some (.int a1), some (.int a2), some (.int y)], [], M3)) (fun x5 => ?_)
      refine pm_irun 5 (σ' := (40, [some (.ref 0), some (.int a1), some (.int a2), some (.int x5)], [.int a2, .int a1, .ref 4], M3)) rfl ?_
      refine pm_igd (σ1 := (41, [some (.ref 0), some (.int a1), some (.int a2), some (.int x5)], [], (pm_sI M3 4 a1.toNatClampNeg a2))) rfl (fun _ => ?_)
      refine pm_ilt (fun y => (41, [some (.ref 0), some (.int a1), some (.int a2), some (.int x5)], [], y)) (fun M6 => ?_)
      refine pm_irun 1 (σ' := (42, [some (.ref 0), some (.int a1), some (.int a2), some (.int x5)], [.ref 0], M6)) rfl ?_
      refine pm_icV (as := [.ref 0]) (rest := []) rfl rfl rfl rfl (Nat.le_of_ble_eq_true rfl) rfl (fun r h => pm_Ev_mono (Nat.le_of_ble_eq_true rfl) (sC_netTold_ok M6 r h)) (fun M7 => ?_)
      show pm_Im _ _ _ _ _ _ (45, [some (.ref 0), some (.int a1), some (.int a2), some (.int x5)], [], M7)
      refine pm_irun 1 (σ' := (46, [some (.ref 0), some (.int a1), some (.int a2), some (.int x5)], [.int x5], M7)) rfl ?_
      exact pm_irI rfl rfl
    · refine pm_irun 1 (σ' := (20, [some (.ref 0), some (.int a1), some (.int a2), none], [.int (-2 : Int32)], M3)) rfl ?_
      exact pm_irI rfl rfl
def sR_home (a1 : Int32) (a2 : Int32) (M : pm_M) : Option (Int32 × pm_M) := pm_bd (sR_isPart a1 M) fun v2 M1 => if v2 = 0 then (some ((-2 : Int32), M1)) else (pm_bd (sR_isStation a2 M1) fun v4 M3 => if ¬ v4 = 0 then (if pm_in a1 2 then (pm_lt ((M3.1 52 a1.toNatClampNeg)) fun x5 => if pm_in a1 2 then (pm_lt (pm_sI M3 52 a1.toNatClampNeg a2) fun M6 => pm_bv (sR_ends M6) fun M7 => some (x5, M7)) else none) else none) else (some ((-2 : Int32), M3)))
abbrev I_R_home (sh : Option (Int32 × pm_M)) (σ : pm_St) : Prop := pm_Im none (pm_Ev 2) pm_T128 (some .int) pm_rI sh σ
set_option maxHeartbeats 4000000 in
set_option maxRecDepth 100000 in
theorem sR_home_ok (a1 : Int32) (a2 : Int32) (M : pm_M) : ∀ r, sR_home a1 a2 M = some r → pm_Ev 3 128 [.ref 49, .int a1, .int a2] M (pm_rI r).1 (pm_rI r).2 := by
  refine pm_meth (al := [some (.ref 49), some (.int a1), some (.int a2), none]) rfl rfl rfl rfl rfl ?_
  unfold sR_home
  show I_R_home _ (0, [some (.ref 49), some (.int a1), some (.int a2), none], [], M)
  refine pm_irun 1 (σ' := (1, [some (.ref 49), some (.int a1), some (.int a2), none], [.int a1], M)) rfl ?_
  refine pm_icI (as := [.int a1]) (rest := []) rfl rfl rfl rfl (Nat.le_of_ble_eq_true rfl) rfl (fun r h => pm_Ev_mono (Nat.le_of_ble_eq_true rfl) (sR_isPart_ok a1 M r h)) (fun v2 M1 => ?_)
  show pm_Im _ _ _ _ _ _ (4, [some (.ref 49), some (.int a1), some (.int a2), none], [.int v2], M1)
  refine pm_iite (σ1 := (15, [some (.ref 49), some (.int a1), some (.int a2), none], [], M1)) (σ2 := (7, [some (.ref 49), some (.int a1), some (.int a2), none], [], M1)) rfl (fun _ => ?_) (fun _ => ?_)
  · refine pm_irun 1 (σ' := (17, [some (.ref 49), some (.int a1), some (.int a2), none], [.int (-2 : Int32)], M1)) rfl ?_
    exact pm_irI rfl rfl
  · refine pm_irun 2 (σ' := (9, [some (.ref 49), some (.int a1), some (.int a2), none], [.int a2, .ref 49], M1)) rfl ?_
    refine pm_icI (as := [.ref 49, .int a2]) (rest := []) rfl rfl rfl rfl (Nat.le_of_ble_eq_true rfl) rfl (fun r h => pm_Ev_mono (Nat.le_of_ble_eq_true rfl) (sR_isStation_ok a2 M1 r h)) (fun v4 M3 => ?_)
    show pm_Im _ _ _ _ _ _ (12, [some (.ref 49), some (.int a1), some (.int a2), none], [.int v4], M3)
    refine pm_iite (σ1 := (18, [some (.ref 49), some (.int a1), some (.int a2), none], [], M3)) (σ2 := (15, [some (.ref 49), some (.int a1), some (.int a2), none], [], M3)) rfl (fun _ => ?_) (fun _ => ?_)
    · refine pm_irun 3 (σ' := (23, [some (.ref 49), some (.int a1), some (.int a2), none], [.int a1, .ref 52], M3)) rfl ?_
      refine pm_igd (σ1 := (24, [some (.ref 49), some (.int a1), some (.int a2), none], [.int (M3.1 52 a1.toNatClampNeg)], M3)) rfl (fun _ => ?_)
      refine pm_irun 1 (σ' := (25, [some (.ref 49), some (.int a1), some (.int a2), some (.int (M3.1 52 a1.toNatClampNeg))], [], M3)) rfl ?_
      refine pm_ilt (fun y => (25, [some (.ref 49), some (.int a1), some (.int a2), some (.int y)], [], M3)) (fun x5 => ?_)
      refine pm_irun 4 (σ' := (31, [some (.ref 49), some (.int a1), some (.int a2), some (.int x5)], [.int a2, .int a1, .ref 52], M3)) rfl ?_
      refine pm_igd (σ1 := (32, [some (.ref 49), some (.int a1), some (.int a2), some (.int x5)], [], (pm_sI M3 52 a1.toNatClampNeg a2))) rfl (fun _ => ?_)
      refine pm_ilt (fun y => (32, [some (.ref 49), some (.int a1), some (.int a2), some (.int x5)], [], y)) (fun M6 => ?_)
      refine pm_irun 1 (σ' := (33, [some (.ref 49), some (.int a1), some (.int a2), some (.int x5)], [.ref 49], M6)) rfl ?_
      refine pm_icV (as := [.ref 49]) (rest := []) rfl rfl rfl rfl (Nat.le_of_ble_eq_true rfl) rfl (fun r h => pm_Ev_mono (Nat.le_of_ble_eq_true rfl) (sR_ends_ok M6 r h)) (fun M7 => ?_)
      show pm_Im _ _ _ _ _ _ (36, [some (.ref 49), some (.int a1), some (.int a2), some (.int x5)], [], M7)
      refine pm_irun 1 (σ' := (37, [some (.ref 49), some (.int a1), some (.int a2), some (.int x5)], [.int x5], M7)) rfl ?_
      exact pm_irI rfl rfl
    · refine pm_irun 1 (σ' := (17, [some (.ref 49), some (.int a1), some (.int a2), none], [.int (-2 : Int32)], M3)) rfl ?_
      exact pm_irI rfl rfl
def sC_parts (a1 : Int32) (a2 : Int32) (M : pm_M) : Option (Int32 × pm_M) := pm_bd (sC_isClass a1 M) fun v2 M1 => if v2 = 0 then (some ((-2 : Int32), M1)) else (if a2 < 0 then (some ((-2 : Int32), M1)) else (if a2 ≤ (6 : Int32) then (if pm_in ((1 : Int32) - a1) 2 then (if (a2 + (M1.1 5 ((1 : Int32) - a1).toNatClampNeg)) ≤ (8 : Int32) then (if pm_in a1 2 then (pm_lt ((M1.1 5 a1.toNatClampNeg)) fun x3 => if pm_in a1 2 then (pm_lt (pm_sI M1 5 a1.toNatClampNeg a2) fun M4 => pm_bv (sC_netTold M4) fun M5 => some (x3, M5)) else none) else none) else (some ((-4 : Int32), M1))) else none) else (some ((-2 : Int32), M1))))
abbrev I_C_parts (sh : Option (Int32 × pm_M)) (σ : pm_St) : Prop := pm_Im none (pm_Ev 4) pm_T62 (some .int) pm_rI sh σ
set_option maxHeartbeats 4000000 in
set_option maxRecDepth 100000 in
theorem sC_parts_ok (a1 : Int32) (a2 : Int32) (M : pm_M) : ∀ r, sC_parts a1 a2 M = some r → pm_Ev 5 62 [.ref 0, .int a1, .int a2] M (pm_rI r).1 (pm_rI r).2 := by
  refine pm_meth (al := [some (.ref 0), some (.int a1), some (.int a2), none]) rfl rfl rfl rfl rfl ?_
  unfold sC_parts
  show I_C_parts _ (0, [some (.ref 0), some (.int a1), some (.int a2), none], [], M)
  refine pm_irun 1 (σ' := (1, [some (.ref 0), some (.int a1), some (.int a2), none], [.int a1], M)) rfl ?_
  refine pm_icI (as := [.int a1]) (rest := []) rfl rfl rfl rfl (Nat.le_of_ble_eq_true rfl) rfl (fun r h => pm_Ev_mono (Nat.le_of_ble_eq_true rfl) (sC_isClass_ok a1 M r h)) (fun v2 M1 => ?_)
  show pm_Im _ _ _ _ _ _ (4, [some (.ref 0), some (.int a1), some (.int a2), none], [.int v2], M1)
  refine pm_iite (σ1 := (17, [some (.ref 0), some (.int a1), some (.int a2), none], [], M1)) (σ2 := (7, [some (.ref 0), some (.int a1), some (.int a2), none], [], M1)) rfl (fun _ => ?_) (fun _ => ?_)
  · refine pm_irun 1 (σ' := (19, [some (.ref 0), some (.int a1), some (.int a2), none], [.int (-2 : Int32)], M1)) rfl ?_
    exact pm_irI rfl rfl
  · refine pm_irun 1 (σ' := (8, [some (.ref 0), some (.int a1), some (.int a2), none], [.int a2], M1)) rfl ?_
    refine pm_iite (σ1 := (17, [some (.ref 0), some (.int a1), some (.int a2), none], [], M1)) (σ2 := (11, [some (.ref 0), some (.int a1), some (.int a2), none], [], M1)) rfl (fun _ => ?_) (fun _ => ?_)
    · refine pm_irun 1 (σ' := (19, [some (.ref 0), some (.int a1), some (.int a2), none], [.int (-2 : Int32)], M1)) rfl ?_
      exact pm_irI rfl rfl
    · refine pm_irun 2 (σ' := (14, [some (.ref 0), some (.int a1), some (.int a2), none], [.int (6 : Int32), .int a2], M1)) rfl ?_
      refine pm_iite (σ1 := (20, [some (.ref 0), some (.int a1), some (.int a2), none], [], M1)) (σ2 := (17, [some (.ref 0), some (.int a1), some (.int a2), none], [], M1)) rfl (fun _ => ?_) (fun _ => ?_)
      · refine pm_irun 7 (σ' := (31, [some (.ref 0), some (.int a1), some (.int a2), none], [.int ((1 : Int32) - a1), .ref 5, .int a2], M1)) rfl ?_
        refine pm_igd (σ1 := (32, [some (.ref 0), some (.int a1), some (.int a2), none], [.int (M1.1 5 ((1 : Int32) - a1).toNatClampNeg), .int a2], M1)) rfl (fun _ => ?_)
        refine pm_irun 2 (σ' := (35, [some (.ref 0), some (.int a1), some (.int a2), none], [.int (8 : Int32), .int (a2 + (M1.1 5 ((1 : Int32) - a1).toNatClampNeg))], M1)) rfl ?_
        refine pm_iite (σ1 := (41, [some (.ref 0), some (.int a1), some (.int a2), none], [], M1)) (σ2 := (38, [some (.ref 0), some (.int a1), some (.int a2), none], [], M1)) rfl (fun _ => ?_) (fun _ => ?_)
        · refine pm_irun 4 (σ' := (49, [some (.ref 0), some (.int a1), some (.int a2), none], [.int a1, .ref 5], M1)) rfl ?_
          refine pm_igd (σ1 := (50, [some (.ref 0), some (.int a1), some (.int a2), none], [.int (M1.1 5 a1.toNatClampNeg)], M1)) rfl (fun _ => ?_)
          refine pm_irun 1 (σ' := (51, [some (.ref 0), some (.int a1), some (.int a2), some (.int (M1.1 5 a1.toNatClampNeg))], [], M1)) rfl ?_
          refine pm_ilt (fun y => (51, [some (.ref 0), some (.int a1), some (.int a2), some (.int y)], [], M1)) (fun x3 => ?_)
          refine pm_irun 5 (σ' := (60, [some (.ref 0), some (.int a1), some (.int a2), some (.int x3)], [.int a2, .int a1, .ref 5], M1)) rfl ?_
          refine pm_igd (σ1 := (61, [some (.ref 0), some (.int a1), some (.int a2), some (.int x3)], [], (pm_sI M1 5 a1.toNatClampNeg a2))) rfl (fun _ => ?_)
          refine pm_ilt (fun y => (61, [some (.ref 0), some (.int a1), some (.int a2), some (.int x3)], [], y)) (fun M4 => ?_)
          refine pm_irun 1 (σ' := (62, [some (.ref 0), some (.int a1), some (.int a2), some (.int x3)], [.ref 0], M4)) rfl ?_
          refine pm_icV (as := [.ref 0]) (rest := []) rfl rfl rfl rfl (Nat.le_of_ble_eq_true rfl) rfl (fun r h => pm_Ev_mono (Nat.le_of_ble_eq_true rfl) (sC_netTold_ok M4 r h)) (fun M5 => ?_)
          show pm_Im _ _ _ _ _ _ (65, [some (.ref 0), some (.int a1), some (.int a2), some (.int x3)], [], M5)
          refine pm_irun 1 (σ' := (66, [some (.ref 0), some (.int a1), some (.int a2), some (.int x3)], [.int x3], M5)) rfl ?_
          exact pm_irI rfl rfl
        · refine pm_irun 1 (σ' := (40, [some (.ref 0), some (.int a1), some (.int a2), none], [.int (-4 : Int32)], M1)) rfl ?_
          exact pm_irI rfl rfl
      · refine pm_irun 1 (σ' := (19, [some (.ref 0), some (.int a1), some (.int a2), none], [.int (-2 : Int32)], M1)) rfl ?_
        exact pm_irI rfl rfl
def sR_parts (a1 : Int32) (a2 : Int32) (M : pm_M) : Option (Int32 × pm_M) := pm_bd (sR_isPart a1 M) fun v2 M1 => if v2 = 0 then (some ((-2 : Int32), M1)) else (pm_bd (sR_in (a2.toInt64) (0 : Int64) (6 : Int64) M1) fun v4 M3 => if ¬ v4 = 0 then (if pm_in ((1 : Int32) - a1) 2 then (if (a2 + (M3.1 53 ((1 : Int32) - a1).toNatClampNeg)) ≤ (8 : Int32) then (if pm_in a1 2 then (pm_lt ((M3.1 53 a1.toNatClampNeg)) fun x5 => if pm_in a1 2 then (pm_lt (pm_sI M3 53 a1.toNatClampNeg a2) fun M6 => pm_bv (sR_ends M6) fun M7 => some (x5, M7)) else none) else none) else (some ((-4 : Int32), M3))) else none) else (some ((-2 : Int32), M3)))
abbrev I_R_parts (sh : Option (Int32 × pm_M)) (σ : pm_St) : Prop := pm_Im none (pm_Ev 2) pm_T129 (some .int) pm_rI sh σ
set_option maxHeartbeats 4000000 in
set_option maxRecDepth 100000 in
theorem sR_parts_ok (a1 : Int32) (a2 : Int32) (M : pm_M) : ∀ r, sR_parts a1 a2 M = some r → pm_Ev 3 129 [.ref 49, .int a1, .int a2] M (pm_rI r).1 (pm_rI r).2 := by
  refine pm_meth (al := [some (.ref 49), some (.int a1), some (.int a2), none]) rfl rfl rfl rfl rfl ?_
  unfold sR_parts
  show I_R_parts _ (0, [some (.ref 49), some (.int a1), some (.int a2), none], [], M)
  refine pm_irun 1 (σ' := (1, [some (.ref 49), some (.int a1), some (.int a2), none], [.int a1], M)) rfl ?_
  refine pm_icI (as := [.int a1]) (rest := []) rfl rfl rfl rfl (Nat.le_of_ble_eq_true rfl) rfl (fun r h => pm_Ev_mono (Nat.le_of_ble_eq_true rfl) (sR_isPart_ok a1 M r h)) (fun v2 M1 => ?_)
  show pm_Im _ _ _ _ _ _ (4, [some (.ref 49), some (.int a1), some (.int a2), none], [.int v2], M1)
  refine pm_iite (σ1 := (19, [some (.ref 49), some (.int a1), some (.int a2), none], [], M1)) (σ2 := (7, [some (.ref 49), some (.int a1), some (.int a2), none], [], M1)) rfl (fun _ => ?_) (fun _ => ?_)
  · refine pm_irun 1 (σ' := (21, [some (.ref 49), some (.int a1), some (.int a2), none], [.int (-2 : Int32)], M1)) rfl ?_
    exact pm_irI rfl rfl
  · refine pm_irun 4 (σ' := (13, [some (.ref 49), some (.int a1), some (.int a2), none], [.long (6 : Int64), .long (0 : Int64), .long a2.toInt64], M1)) rfl ?_
    refine pm_icI (as := [.long a2.toInt64, .long (0 : Int64), .long (6 : Int64)]) (rest := []) rfl rfl rfl rfl (Nat.le_of_ble_eq_true rfl) rfl (fun r h => pm_Ev_mono (Nat.le_of_ble_eq_true rfl) (sR_in_ok (a2.toInt64) (0 : Int64) (6 : Int64) M1 r h)) (fun v4 M3 => ?_)
    show pm_Im _ _ _ _ _ _ (16, [some (.ref 49), some (.int a1), some (.int a2), none], [.int v4], M3)
    refine pm_iite (σ1 := (22, [some (.ref 49), some (.int a1), some (.int a2), none], [], M3)) (σ2 := (19, [some (.ref 49), some (.int a1), some (.int a2), none], [], M3)) rfl (fun _ => ?_) (fun _ => ?_)
    · refine pm_irun 6 (σ' := (30, [some (.ref 49), some (.int a1), some (.int a2), none], [.int ((1 : Int32) - a1), .ref 53, .int a2], M3)) rfl ?_
      refine pm_igd (σ1 := (31, [some (.ref 49), some (.int a1), some (.int a2), none], [.int (M3.1 53 ((1 : Int32) - a1).toNatClampNeg), .int a2], M3)) rfl (fun _ => ?_)
      refine pm_irun 2 (σ' := (34, [some (.ref 49), some (.int a1), some (.int a2), none], [.int (8 : Int32), .int (a2 + (M3.1 53 ((1 : Int32) - a1).toNatClampNeg))], M3)) rfl ?_
      refine pm_iite (σ1 := (40, [some (.ref 49), some (.int a1), some (.int a2), none], [], M3)) (σ2 := (37, [some (.ref 49), some (.int a1), some (.int a2), none], [], M3)) rfl (fun _ => ?_) (fun _ => ?_)
      · refine pm_irun 3 (σ' := (45, [some (.ref 49), some (.int a1), some (.int a2), none], [.int a1, .ref 53], M3)) rfl ?_
        refine pm_igd (σ1 := (46, [some (.ref 49), some (.int a1), some (.int a2), none], [.int (M3.1 53 a1.toNatClampNeg)], M3)) rfl (fun _ => ?_)
        refine pm_irun 1 (σ' := (47, [some (.ref 49), some (.int a1), some (.int a2), some (.int (M3.1 53 a1.toNatClampNeg))], [], M3)) rfl ?_
        refine pm_ilt (fun y => (47, [some (.ref 49), some (.int a1), some (.int a2), some (.int y)], [], M3)) (fun x5 => ?_)
        refine pm_irun 4 (σ' := (53, [some (.ref 49), some (.int a1), some (.int a2), some (.int x5)], [.int a2, .int a1, .ref 53], M3)) rfl ?_
        refine pm_igd (σ1 := (54, [some (.ref 49), some (.int a1), some (.int a2), some (.int x5)], [], (pm_sI M3 53 a1.toNatClampNeg a2))) rfl (fun _ => ?_)
        refine pm_ilt (fun y => (54, [some (.ref 49), some (.int a1), some (.int a2), some (.int x5)], [], y)) (fun M6 => ?_)
        refine pm_irun 1 (σ' := (55, [some (.ref 49), some (.int a1), some (.int a2), some (.int x5)], [.ref 49], M6)) rfl ?_
        refine pm_icV (as := [.ref 49]) (rest := []) rfl rfl rfl rfl (Nat.le_of_ble_eq_true rfl) rfl (fun r h => pm_Ev_mono (Nat.le_of_ble_eq_true rfl) (sR_ends_ok M6 r h)) (fun M7 => ?_)
        show pm_Im _ _ _ _ _ _ (58, [some (.ref 49), some (.int a1), some (.int a2), some (.int x5)], [], M7)
        refine pm_irun 1 (σ' := (59, [some (.ref 49), some (.int a1), some (.int a2), some (.int x5)], [.int x5], M7)) rfl ?_
        exact pm_irI rfl rfl
      · refine pm_irun 1 (σ' := (39, [some (.ref 49), some (.int a1), some (.int a2), none], [.int (-4 : Int32)], M3)) rfl ?_
        exact pm_irI rfl rfl
    · refine pm_irun 1 (σ' := (21, [some (.ref 49), some (.int a1), some (.int a2), none], [.int (-2 : Int32)], M3)) rfl ?_
      exact pm_irI rfl rfl
def sC_pay (a1 : Int32) (a2 : Int64) (M : pm_M) : Option (Int64 × pm_M) := pm_bd (sC_isClass a1 M) fun v2 M1 => if ¬ v2 = 0 then (if pm_in a1 2 then (pm_lt ((M1.2 7 a1.toNatClampNeg)) fun x3 => if pm_in a1 2 then (pm_lt (pm_sL M1 7 a1.toNatClampNeg a2) fun M4 => some (x3, M4)) else none) else none) else (some ((-4611686018427387904 : Int64), M1))
abbrev I_C_pay (sh : Option (Int64 × pm_M)) (σ : pm_St) : Prop := pm_Im none (pm_Ev 1) pm_T63 (some .long) pm_rL sh σ
set_option maxHeartbeats 4000000 in
set_option maxRecDepth 100000 in
theorem sC_pay_ok (a1 : Int32) (a2 : Int64) (M : pm_M) : ∀ r, sC_pay a1 a2 M = some r → pm_Ev 2 63 [.ref 0, .int a1, .long a2] M (pm_rL r).1 (pm_rL r).2 := by
  refine pm_meth (al := [some (.ref 0), some (.int a1), some (.long a2), none, none, none]) rfl rfl rfl rfl rfl ?_
  unfold sC_pay
  show I_C_pay _ (0, [some (.ref 0), some (.int a1), some (.long a2), none, none, none], [], M)
  refine pm_irun 1 (σ' := (1, [some (.ref 0), some (.int a1), some (.long a2), none, none, none], [.int a1], M)) rfl ?_
  refine pm_icI (as := [.int a1]) (rest := []) rfl rfl rfl rfl (Nat.le_of_ble_eq_true rfl) rfl (fun r h => pm_Ev_mono (Nat.le_of_ble_eq_true rfl) (sC_isClass_ok a1 M r h)) (fun v2 M1 => ?_)
  show pm_Im _ _ _ _ _ _ (4, [some (.ref 0), some (.int a1), some (.long a2), none, none, none], [.int v2], M1)
  refine pm_iite (σ1 := (11, [some (.ref 0), some (.int a1), some (.long a2), none, none, none], [], M1)) (σ2 := (7, [some (.ref 0), some (.int a1), some (.long a2), none, none, none], [], M1)) rfl (fun _ => ?_) (fun _ => ?_)
  · refine pm_irun 4 (σ' := (19, [some (.ref 0), some (.int a1), some (.long a2), none, none, none], [.int a1, .ref 7], M1)) rfl ?_
    refine pm_igd (σ1 := (20, [some (.ref 0), some (.int a1), some (.long a2), none, none, none], [.long (M1.2 7 a1.toNatClampNeg)], M1)) rfl (fun _ => ?_)
    refine pm_irun 1 (σ' := (22, [some (.ref 0), some (.int a1), some (.long a2), none, some (.long (M1.2 7 a1.toNatClampNeg)), none], [], M1)) rfl ?_
    refine pm_ilt (fun y => (22, [some (.ref 0), some (.int a1), some (.long a2), none, some (.long y), none], [], M1)) (fun x3 => ?_)
    refine pm_irun 5 (σ' := (31, [some (.ref 0), some (.int a1), some (.long a2), none, some (.long x3), none], [.long a2, .int a1, .ref 7], M1)) rfl ?_
    refine pm_igd (σ1 := (32, [some (.ref 0), some (.int a1), some (.long a2), none, some (.long x3), none], [], (pm_sL M1 7 a1.toNatClampNeg a2))) rfl (fun _ => ?_)
    refine pm_ilt (fun y => (32, [some (.ref 0), some (.int a1), some (.long a2), none, some (.long x3), none], [], y)) (fun M4 => ?_)
    refine pm_irun 1 (σ' := (34, [some (.ref 0), some (.int a1), some (.long a2), none, some (.long x3), none], [.long x3], M4)) rfl ?_
    exact pm_irL rfl rfl
  · refine pm_irun 1 (σ' := (10, [some (.ref 0), some (.int a1), some (.long a2), none, none, none], [.long (-4611686018427387904 : Int64)], M1)) rfl ?_
    exact pm_irL rfl rfl
def sR_pay (a1 : Int32) (a2 : Int64) (M : pm_M) : Option (Int64 × pm_M) := pm_bd (sR_isPart a1 M) fun v2 M1 => if ¬ v2 = 0 then (if pm_in a1 2 then (pm_lt ((M1.2 55 a1.toNatClampNeg)) fun x3 => if pm_in a1 2 then (pm_lt (pm_sL M1 55 a1.toNatClampNeg a2) fun M4 => some (x3, M4)) else none) else none) else (some ((-4611686018427387904 : Int64), M1))
abbrev I_R_pay (sh : Option (Int64 × pm_M)) (σ : pm_St) : Prop := pm_Im none (pm_Ev 2) pm_T130 (some .long) pm_rL sh σ
set_option maxHeartbeats 4000000 in
set_option maxRecDepth 100000 in
theorem sR_pay_ok (a1 : Int32) (a2 : Int64) (M : pm_M) : ∀ r, sR_pay a1 a2 M = some r → pm_Ev 3 130 [.ref 49, .int a1, .long a2] M (pm_rL r).1 (pm_rL r).2 := by
  refine pm_meth (al := [some (.ref 49), some (.int a1), some (.long a2), none, none, none]) rfl rfl rfl rfl rfl ?_
  unfold sR_pay
  show I_R_pay _ (0, [some (.ref 49), some (.int a1), some (.long a2), none, none, none], [], M)
  refine pm_irun 1 (σ' := (1, [some (.ref 49), some (.int a1), some (.long a2), none, none, none], [.int a1], M)) rfl ?_
  refine pm_icI (as := [.int a1]) (rest := []) rfl rfl rfl rfl (Nat.le_of_ble_eq_true rfl) rfl (fun r h => pm_Ev_mono (Nat.le_of_ble_eq_true rfl) (sR_isPart_ok a1 M r h)) (fun v2 M1 => ?_)
  show pm_Im _ _ _ _ _ _ (4, [some (.ref 49), some (.int a1), some (.long a2), none, none, none], [.int v2], M1)
  refine pm_iite (σ1 := (11, [some (.ref 49), some (.int a1), some (.long a2), none, none, none], [], M1)) (σ2 := (7, [some (.ref 49), some (.int a1), some (.long a2), none, none, none], [], M1)) rfl (fun _ => ?_) (fun _ => ?_)
  · refine pm_irun 3 (σ' := (16, [some (.ref 49), some (.int a1), some (.long a2), none, none, none], [.int a1, .ref 55], M1)) rfl ?_
    refine pm_igd (σ1 := (17, [some (.ref 49), some (.int a1), some (.long a2), none, none, none], [.long (M1.2 55 a1.toNatClampNeg)], M1)) rfl (fun _ => ?_)
    refine pm_irun 1 (σ' := (19, [some (.ref 49), some (.int a1), some (.long a2), none, some (.long (M1.2 55 a1.toNatClampNeg)), none], [], M1)) rfl ?_
    refine pm_ilt (fun y => (19, [some (.ref 49), some (.int a1), some (.long a2), none, some (.long y), none], [], M1)) (fun x3 => ?_)
    refine pm_irun 4 (σ' := (25, [some (.ref 49), some (.int a1), some (.long a2), none, some (.long x3), none], [.long a2, .int a1, .ref 55], M1)) rfl ?_
    refine pm_igd (σ1 := (26, [some (.ref 49), some (.int a1), some (.long a2), none, some (.long x3), none], [], (pm_sL M1 55 a1.toNatClampNeg a2))) rfl (fun _ => ?_)
    refine pm_ilt (fun y => (26, [some (.ref 49), some (.int a1), some (.long a2), none, some (.long x3), none], [], y)) (fun M4 => ?_)
    refine pm_irun 1 (σ' := (28, [some (.ref 49), some (.int a1), some (.long a2), none, some (.long x3), none], [.long x3], M4)) rfl ?_
    exact pm_irL rfl rfl
  · refine pm_irun 1 (σ' := (10, [some (.ref 49), some (.int a1), some (.long a2), none, none, none], [.long (-4611686018427387904 : Int64)], M1)) rfl ?_
    exact pm_irL rfl rfl
def sC_isByte (a1 : Int32) (M : pm_M) : Option (Int32 × pm_M) := if a1 < 0 then (some ((0 : Int32), M)) else (if (255 : Int32) < a1 then (some ((0 : Int32), M)) else (some ((1 : Int32), M)))
abbrev I_C_isByte (sh : Option (Int32 × pm_M)) (σ : pm_St) : Prop := pm_Im none (pm_Ev 0) pm_T98 (some .boolean) pm_rI sh σ
set_option maxHeartbeats 4000000 in
set_option maxRecDepth 100000 in
theorem sC_isByte_ok (a1 : Int32) (M : pm_M) : ∀ r, sC_isByte a1 M = some r → pm_Ev 1 98 [.int a1] M (pm_rI r).1 (pm_rI r).2 := by
  refine pm_meth (al := [some (.int a1)]) rfl rfl rfl rfl rfl ?_
  unfold sC_isByte
  show I_C_isByte _ (0, [some (.int a1)], [], M)
  refine pm_irun 1 (σ' := (1, [some (.int a1)], [.int a1], M)) rfl ?_
  refine pm_iite (σ1 := (15, [some (.int a1)], [], M)) (σ2 := (4, [some (.int a1)], [], M)) rfl (fun _ => ?_) (fun _ => ?_)
  · refine pm_irun 1 (σ' := (16, [some (.int a1)], [.int (0 : Int32)], M)) rfl ?_
    exact pm_irZ (Or.inl rfl) rfl rfl
  · refine pm_irun 2 (σ' := (8, [some (.int a1)], [.int (255 : Int32), .int a1], M)) rfl ?_
    refine pm_iite (σ1 := (15, [some (.int a1)], [], M)) (σ2 := (11, [some (.int a1)], [], M)) rfl (fun _ => ?_) (fun _ => ?_)
    · refine pm_irun 1 (σ' := (16, [some (.int a1)], [.int (0 : Int32)], M)) rfl ?_
      exact pm_irZ (Or.inl rfl) rfl rfl
    · refine pm_irun 2 (σ' := (16, [some (.int a1)], [.int (1 : Int32)], M)) rfl ?_
      exact pm_irZ (Or.inr rfl) rfl rfl
def sTape_hasRoom (a1 : Int32) (M : pm_M) : Option (Int32 × pm_M) := if (60 : Int32) < ((M.1 37 0) + a1) then (some ((0 : Int32), M)) else (some ((1 : Int32), M))
abbrev I_Tape_hasRoom (sh : Option (Int32 × pm_M)) (σ : pm_St) : Prop := pm_Im none (pm_Ev 0) pm_T30 (some .boolean) pm_rI sh σ
set_option maxHeartbeats 4000000 in
set_option maxRecDepth 100000 in
theorem sTape_hasRoom_ok (a1 : Int32) (M : pm_M) : ∀ r, sTape_hasRoom a1 M = some r → pm_Ev 1 30 [.ref 37, .int a1] M (pm_rI r).1 (pm_rI r).2 := by
  refine pm_meth (al := [some (.ref 37), some (.int a1)]) rfl rfl rfl rfl rfl ?_
  unfold sTape_hasRoom
  show I_Tape_hasRoom _ (0, [some (.ref 37), some (.int a1)], [], M)
  refine pm_irun 5 (σ' := (8, [some (.ref 37), some (.int a1)], [.int (60 : Int32), .int ((M.1 37 0) + a1)], M)) rfl ?_
  refine pm_iite (σ1 := (15, [some (.ref 37), some (.int a1)], [], M)) (σ2 := (11, [some (.ref 37), some (.int a1)], [], M)) rfl (fun _ => ?_) (fun _ => ?_)
  · refine pm_irun 1 (σ' := (16, [some (.ref 37), some (.int a1)], [.int (0 : Int32)], M)) rfl ?_
    exact pm_irZ (Or.inl rfl) rfl rfl
  · refine pm_irun 2 (σ' := (16, [some (.ref 37), some (.int a1)], [.int (1 : Int32)], M)) rfl ?_
    exact pm_irZ (Or.inr rfl) rfl rfl
def sTape_append (a1 : Int32) (M : pm_M) : Option (pm_M) := if (M.1 37 0) < (60 : Int32) then (if pm_in (M.1 37 0) 60 then (pm_lt (pm_sI M 38 (M.1 37 0).toNatClampNeg a1) fun M1 => pm_lt (pm_sI M1 37 0 (((M1.1 37 0) + (1 : Int32)))) fun M2 => some M2) else none) else (some M)
abbrev I_Tape_append (sh : Option (pm_M)) (σ : pm_St) : Prop := pm_Im none (pm_Ev 0) pm_T31 none pm_rV sh σ
set_option maxHeartbeats 4000000 in
set_option maxRecDepth 100000 in
theorem sTape_append_ok (a1 : Int32) (M : pm_M) : ∀ r, sTape_append a1 M = some r → pm_Ev 1 31 [.ref 37, .int a1] M (pm_rV r).1 (pm_rV r).2 := by
  refine pm_meth (al := [some (.ref 37), some (.int a1)]) rfl rfl rfl rfl rfl ?_
  unfold sTape_append
  show I_Tape_append _ (0, [some (.ref 37), some (.int a1)], [], M)
  refine pm_irun 3 (σ' := (6, [some (.ref 37), some (.int a1)], [.int (60 : Int32), .int (M.1 37 0)], M)) rfl ?_
  refine pm_iite (σ1 := (10, [some (.ref 37), some (.int a1)], [], M)) (σ2 := (9, [some (.ref 37), some (.int a1)], [], M)) rfl (fun _ => ?_) (fun _ => ?_)
  · refine pm_irun 5 (σ' := (19, [some (.ref 37), some (.int a1)], [.int a1, .int (M.1 37 0), .ref 38], M)) rfl ?_
    refine pm_igd (σ1 := (20, [some (.ref 37), some (.int a1)], [], (pm_sI M 38 (M.1 37 0).toNatClampNeg a1))) rfl (fun _ => ?_)
    refine pm_ilt (fun y => (20, [some (.ref 37), some (.int a1)], [], y)) (fun M1 => ?_)
    refine pm_irun 5 (σ' := (27, [some (.ref 37), some (.int a1)], [.int ((M1.1 37 0) + (1 : Int32)), .ref 37], M1)) rfl ?_
    refine pm_irun 1 (σ' := (30, [some (.ref 37), some (.int a1)], [], (pm_sI M1 37 0 (((M1.1 37 0) + (1 : Int32)))))) rfl ?_
    refine pm_ilt (fun y => (30, [some (.ref 37), some (.int a1)], [], y)) (fun M2 => ?_)
    exact pm_irV rfl rfl
  · exact pm_irV rfl rfl
def sC_feed (a1 : Int32) (a2 : Int32) (a3 : Int32) (a4 : Int32) (a5 : Int32) (a6 : Int32) (M : pm_M) : Option (Int32 × pm_M) := if a1 < (1 : Int32) then (some ((-2 : Int32), M)) else (if a1 ≤ (5 : Int32) then (pm_bd (sC_isByte a2 M) fun v2 M1 => if v2 = 0 then (some ((-2 : Int32), M1)) else (pm_bd (sC_isByte a3 M1) fun v4 M3 => if v4 = 0 then (some ((-2 : Int32), M3)) else (pm_bd (sC_isByte a4 M3) fun v6 M5 => if v6 = 0 then (some ((-2 : Int32), M5)) else (pm_bd (sC_isByte a5 M5) fun v8 M7 => if v8 = 0 then (some ((-2 : Int32), M7)) else (pm_bd (sC_isByte a6 M7) fun v10 M9 => if ¬ v10 = 0 then (pm_bd (sTape_hasRoom a1 M9) fun v12 M11 => if ¬ v12 = 0 then (pm_bv (sTape_append a2 M11) fun M13 => pm_jn (fun (M15 : pm_M) => pm_jn (fun (M17 : pm_M) => pm_jn (fun (M19 : pm_M) => if a1 ≤ (4 : Int32) then (some ((M19.1 37 0), M19)) else (pm_bv (sTape_append a6 M19) fun M20 => some ((M20.1 37 0), M20))) fun (j18 : pm_M → Option (Int32 × pm_M)) => if a1 ≤ (3 : Int32) then (j18 M17) else (pm_bv (sTape_append a5 M17) fun M21 => j18 M21)) fun (j16 : pm_M → Option (Int32 × pm_M)) => if a1 ≤ (2 : Int32) then (j16 M15) else (pm_bv (sTape_append a4 M15) fun M22 => j16 M22)) fun (j14 : pm_M → Option (Int32 × pm_M)) => if a1 ≤ (1 : Int32) then (j14 M13) else (pm_bv (sTape_append a3 M13) fun M23 => j14 M23)) else (some ((-4 : Int32), M11))) else (some ((-2 : Int32), M9))))))) else (some ((-2 : Int32), M)))
abbrev I_C_feed (sh : Option (Int32 × pm_M)) (σ : pm_St) : Prop := pm_Im none (pm_Ev 1) pm_T64 (some .int) pm_rI sh σ
set_option maxHeartbeats 4000000 in
set_option maxRecDepth 100000 in
theorem sC_feed_ok (a1 : Int32) (a2 : Int32) (a3 : Int32) (a4 : Int32) (a5 : Int32) (a6 : Int32) (M : pm_M) : ∀ r, sC_feed a1 a2 a3 a4 a5 a6 M = some r → pm_Ev 2 64 [.ref 0, .int a1, .int a2, .int a3, .int a4, .int a5, .int a6] M (pm_rI r).1 (pm_rI r).2 := by
  refine pm_meth (al := [some (.ref 0), some (.int a1), some (.int a2), some (.int a3), some (.int a4), some (.int a5), some (.int a6)]) rfl rfl rfl rfl rfl ?_
  unfold sC_feed
  show I_C_feed _ (0, [some (.ref 0), some (.int a1), some (.int a2), some (.int a3), some (.int a4), some (.int a5), some (.int a6)], [], M)
  refine pm_irun 2 (σ' := (2, [some (.ref 0), some (.int a1), some (.int a2), some (.int a3), some (.int a4), some (.int a5), some (.int a6)], [.int (1 : Int32), .int a1], M)) rfl ?_
  refine pm_iite (σ1 := (10, [some (.ref 0), some (.int a1), some (.int a2), some (.int a3), some (.int a4), some (.int a5), some (.int a6)], [], M)) (σ2 := (5, [some (.ref 0), some (.int a1), some (.int a2), some (.int a3), some (.int a4), some (.int a5), some (.int a6)], [], M)) rfl (fun _ => ?_) (fun _ => ?_)
  · refine pm_irun 1 (σ' := (12, [some (.ref 0), some (.int a1), some (.int a2), some (.int a3), some (.int a4), some (.int a5), some (.int a6)], [.int (-2 : Int32)], M)) rfl ?_
    exact pm_irI rfl rfl
  · refine pm_irun 2 (σ' := (7, [some (.ref 0), some (.int a1), some (.int a2), some (.int a3), some (.int a4), some (.int a5), some (.int a6)], [.int (5 : Int32), .int a1], M)) rfl ?_
    refine pm_iite (σ1 := (13, [some (.ref 0), some (.int a1), some (.int a2), some (.int a3), some (.int a4), some (.int a5), some (.int a6)], [], M)) (σ2 := (10, [some (.ref 0), some (.int a1), some (.int a2), some (.int a3), some (.int a4), some (.int a5), some (.int a6)], [], M)) rfl (fun _ => ?_) (fun _ => ?_)
    · refine pm_irun 1 (σ' := (14, [some (.ref 0), some (.int a1), some (.int a2), some (.int a3), some (.int a4), some (.int a5), some (.int a6)], [.int a2], M)) rfl ?_
      refine pm_icI (as := [.int a2]) (rest := []) rfl rfl rfl rfl (Nat.le_of_ble_eq_true rfl) rfl (fun r h => pm_Ev_mono (Nat.le_of_ble_eq_true rfl) (sC_isByte_ok a2 M r h)) (fun v2 M1 => ?_)
      show pm_Im _ _ _ _ _ _ (17, [some (.ref 0), some (.int a1), some (.int a2), some (.int a3), some (.int a4), some (.int a5), some (.int a6)], [.int v2], M1)
      refine pm_iite (σ1 := (51, [some (.ref 0), some (.int a1), some (.int a2), some (.int a3), some (.int a4), some (.int a5), some (.int a6)], [], M1)) (σ2 := (20, [some (.ref 0), some (.int a1), some (.int a2), some (.int a3), some (.int a4), some (.int a5), some (.int a6)], [], M1)) rfl (fun _ => ?_) (fun _ => ?_)
      · refine pm_irun 1 (σ' := (53, [some (.ref 0), some (.int a1), some (.int a2), some (.int a3), some (.int a4), some (.int a5), some (.int a6)], [.int (-2 : Int32)], M1)) rfl ?_
        exact pm_irI rfl rfl
      · refine pm_irun 1 (σ' := (21, [some (.ref 0), some (.int a1), some (.int a2), some (.int a3), some (.int a4), some (.int a5), some (.int a6)], [.int a3], M1)) rfl ?_
        refine pm_icI (as := [.int a3]) (rest := []) rfl rfl rfl rfl (Nat.le_of_ble_eq_true rfl) rfl (fun r h => pm_Ev_mono (Nat.le_of_ble_eq_true rfl) (sC_isByte_ok a3 M1 r h)) (fun v4 M3 => ?_)
        show pm_Im _ _ _ _ _ _ (24, [some (.ref 0), some (.int a1), some (.int a2), some (.int a3), some (.int a4), some (.int a5), some (.int a6)], [.int v4], M3)
        refine pm_iite (σ1 := (51, [some (.ref 0), some (.int a1), some (.int a2), some (.int a3), some (.int a4), some (.int a5), some (.int a6)], [], M3)) (σ2 := (27, [some (.ref 0), some (.int a1), some (.int a2), some (.int a3), some (.int a4), some (.int a5), some (.int a6)], [], M3)) rfl (fun _ => ?_) (fun _ => ?_)
        · refine pm_irun 1 (σ' := (53, [some (.ref 0), some (.int a1), some (.int a2), some (.int a3), some (.int a4), some (.int a5), some (.int a6)], [.int (-2 : Int32)], M3)) rfl ?_
          exact pm_irI rfl rfl
        · refine pm_irun 1 (σ' := (29, [some (.ref 0), some (.int a1), some (.int a2), some (.int a3), some (.int a4), some (.int a5), some (.int a6)], [.int a4], M3)) rfl ?_
          refine pm_icI (as := [.int a4]) (rest := []) rfl rfl rfl rfl (Nat.le_of_ble_eq_true rfl) rfl (fun r h => pm_Ev_mono (Nat.le_of_ble_eq_true rfl) (sC_isByte_ok a4 M3 r h)) (fun v6 M5 => ?_)
          show pm_Im _ _ _ _ _ _ (32, [some (.ref 0), some (.int a1), some (.int a2), some (.int a3), some (.int a4), some (.int a5), some (.int a6)], [.int v6], M5)
          refine pm_iite (σ1 := (51, [some (.ref 0), some (.int a1), some (.int a2), some (.int a3), some (.int a4), some (.int a5), some (.int a6)], [], M5)) (σ2 := (35, [some (.ref 0), some (.int a1), some (.int a2), some (.int a3), some (.int a4), some (.int a5), some (.int a6)], [], M5)) rfl (fun _ => ?_) (fun _ => ?_)
          · refine pm_irun 1 (σ' := (53, [some (.ref 0), some (.int a1), some (.int a2), some (.int a3), some (.int a4), some (.int a5), some (.int a6)], [.int (-2 : Int32)], M5)) rfl ?_
            exact pm_irI rfl rfl
          · refine pm_irun 1 (σ' := (37, [some (.ref 0), some (.int a1), some (.int a2), some (.int a3), some (.int a4), some (.int a5), some (.int a6)], [.int a5], M5)) rfl ?_
            refine pm_icI (as := [.int a5]) (rest := []) rfl rfl rfl rfl (Nat.le_of_ble_eq_true rfl) rfl (fun r h => pm_Ev_mono (Nat.le_of_ble_eq_true rfl) (sC_isByte_ok a5 M5 r h)) (fun v8 M7 => ?_)
            show pm_Im _ _ _ _ _ _ (40, [some (.ref 0), some (.int a1), some (.int a2), some (.int a3), some (.int a4), some (.int a5), some (.int a6)], [.int v8], M7)
            refine pm_iite (σ1 := (51, [some (.ref 0), some (.int a1), some (.int a2), some (.int a3), some (.int a4), some (.int a5), some (.int a6)], [], M7)) (σ2 := (43, [some (.ref 0), some (.int a1), some (.int a2), some (.int a3), some (.int a4), some (.int a5), some (.int a6)], [], M7)) rfl (fun _ => ?_) (fun _ => ?_)
            · refine pm_irun 1 (σ' := (53, [some (.ref 0), some (.int a1), some (.int a2), some (.int a3), some (.int a4), some (.int a5), some (.int a6)], [.int (-2 : Int32)], M7)) rfl ?_
              exact pm_irI rfl rfl
            · refine pm_irun 1 (σ' := (45, [some (.ref 0), some (.int a1), some (.int a2), some (.int a3), some (.int a4), some (.int a5), some (.int a6)], [.int a6], M7)) rfl ?_
              refine pm_icI (as := [.int a6]) (rest := []) rfl rfl rfl rfl (Nat.le_of_ble_eq_true rfl) rfl (fun r h => pm_Ev_mono (Nat.le_of_ble_eq_true rfl) (sC_isByte_ok a6 M7 r h)) (fun v10 M9 => ?_)
              show pm_Im _ _ _ _ _ _ (48, [some (.ref 0), some (.int a1), some (.int a2), some (.int a3), some (.int a4), some (.int a5), some (.int a6)], [.int v10], M9)
              refine pm_iite (σ1 := (54, [some (.ref 0), some (.int a1), some (.int a2), some (.int a3), some (.int a4), some (.int a5), some (.int a6)], [], M9)) (σ2 := (51, [some (.ref 0), some (.int a1), some (.int a2), some (.int a3), some (.int a4), some (.int a5), some (.int a6)], [], M9)) rfl (fun _ => ?_) (fun _ => ?_)
              · refine pm_irun 3 (σ' := (59, [some (.ref 0), some (.int a1), some (.int a2), some (.int a3), some (.int a4), some (.int a5), some (.int a6)], [.int a1, .ref 37], M9)) rfl ?_
                refine pm_icI (as := [.ref 37, .int a1]) (rest := []) rfl rfl rfl rfl (Nat.le_of_ble_eq_true rfl) rfl (fun r h => pm_Ev_mono (Nat.le_of_ble_eq_true rfl) (sTape_hasRoom_ok a1 M9 r h)) (fun v12 M11 => ?_)
                show pm_Im _ _ _ _ _ _ (62, [some (.ref 0), some (.int a1), some (.int a2), some (.int a3), some (.int a4), some (.int a5), some (.int a6)], [.int v12], M11)
                refine pm_iite (σ1 := (68, [some (.ref 0), some (.int a1), some (.int a2), some (.int a3), some (.int a4), some (.int a5), some (.int a6)], [], M11)) (σ2 := (65, [some (.ref 0), some (.int a1), some (.int a2), some (.int a3), some (.int a4), some (.int a5), some (.int a6)], [], M11)) rfl (fun _ => ?_) (fun _ => ?_)
                · refine pm_irun 3 (σ' := (73, [some (.ref 0), some (.int a1), some (.int a2), some (.int a3), some (.int a4), some (.int a5), some (.int a6)], [.int a2, .ref 37], M11)) rfl ?_
                  refine pm_icV (as := [.ref 37, .int a2]) (rest := []) rfl rfl rfl rfl (Nat.le_of_ble_eq_true rfl) rfl (fun r h => pm_Ev_mono (Nat.le_of_ble_eq_true rfl) (sTape_append_ok a2 M11 r h)) (fun M13 => ?_)
                  show pm_Im _ _ _ _ _ _ (76, [some (.ref 0), some (.int a1), some (.int a2), some (.int a3), some (.int a4), some (.int a5), some (.int a6)], [], M13)
                  refine pm_irun 2 (σ' := (78, [some (.ref 0), some (.int a1), some (.int a2), some (.int a3), some (.int a4), some (.int a5), some (.int a6)], [.int (1 : Int32), .int a1], M13)) rfl ?_
                  refine pm_ijn (fun (g : pm_M → Option (Int32 × pm_M)) => ∀ (M15 : pm_M), I_C_feed (g M15) (89, [some (.ref 0), some (.int a1), none, none, some (.int a4), some (.int a5), some (.int a6)], [], M15)) (fun (M15 : pm_M) => ?_) (fun j14 hj14 => ?_)
                  · show I_C_feed _ (89, [some (.ref 0), some (.int a1), none, none, some (.int a4), some (.int a5), some (.int a6)], [], M15)
                    refine pm_irun 2 (σ' := (91, [some (.ref 0), some (.int a1), none, none, some (.int a4), some (.int a5), some (.int a6)], [.int (2 : Int32), .int a1], M15)) rfl ?_
                    refine pm_ijn (fun (g : pm_M → Option (Int32 × pm_M)) => ∀ (M17 : pm_M), I_C_feed (g M17) (103, [some (.ref 0), some (.int a1), none, none, none, some (.int a5), some (.int a6)], [], M17)) (fun (M17 : pm_M) => ?_) (fun j16 hj16 => ?_)
                    · show I_C_feed _ (103, [some (.ref 0), some (.int a1), none, none, none, some (.int a5), some (.int a6)], [], M17)
                      refine pm_irun 2 (σ' := (105, [some (.ref 0), some (.int a1), none, none, none, some (.int a5), some (.int a6)], [.int (3 : Int32), .int a1], M17)) rfl ?_
                      refine pm_ijn (fun (g : pm_M → Option (Int32 × pm_M)) => ∀ (M19 : pm_M), I_C_feed (g M19) (117, [some (.ref 0), some (.int a1), none, none, none, none, some (.int a6)], [], M19)) (fun (M19 : pm_M) => ?_) (fun j18 hj18 => ?_)
                      · show I_C_feed _ (117, [some (.ref 0), some (.int a1), none, none, none, none, some (.int a6)], [], M19)
                        refine pm_irun 2 (σ' := (119, [some (.ref 0), some (.int a1), none, none, none, none, some (.int a6)], [.int (4 : Int32), .int a1], M19)) rfl ?_
                        refine pm_iite (σ1 := (131, [some (.ref 0), some (.int a1), none, none, none, none, some (.int a6)], [], M19)) (σ2 := (122, [some (.ref 0), some (.int a1), none, none, none, none, some (.int a6)], [], M19)) rfl (fun _ => ?_) (fun _ => ?_)
                        · refine pm_irun 3 (σ' := (138, [some (.ref 0), some (.int a1), none, none, none, none, some (.int a6)], [.int (M19.1 37 0)], M19)) rfl ?_
                          exact pm_irI rfl rfl
                        · refine pm_irun 3 (σ' := (128, [some (.ref 0), some (.int a1), none, none, none, none, some (.int a6)], [.int a6, .ref 37], M19)) rfl ?_
                          refine pm_icV (as := [.ref 37, .int a6]) (rest := []) rfl rfl rfl rfl (Nat.le_of_ble_eq_true rfl) rfl (fun r h => pm_Ev_mono (Nat.le_of_ble_eq_true rfl) (sTape_append_ok a6 M19 r h)) (fun M20 => ?_)
                          show pm_Im _ _ _ _ _ _ (131, [some (.ref 0), some (.int a1), none, none, none, none, some (.int a6)], [], M20)
                          refine pm_irun 3 (σ' := (138, [some (.ref 0), some (.int a1), none, none, none, none, some (.int a6)], [.int (M20.1 37 0)], M20)) rfl ?_
                          exact pm_irI rfl rfl
                      refine pm_iite (σ1 := (117, [some (.ref 0), some (.int a1), none, none, none, some (.int a5), some (.int a6)], [], M17)) (σ2 := (108, [some (.ref 0), some (.int a1), none, none, none, some (.int a5), some (.int a6)], [], M17)) rfl (fun _ => ?_) (fun _ => ?_)
                      · refine pm_iwk (al' := [some (.ref 0), some (.int a1), none, none, none, none, some (.int a6)]) (pm_wkS (pm_wkS (pm_wkS (pm_wkS (pm_wkS (pm_wkN (pm_wkS pm_wk0))))))) ?_
                        exact hj18 _
                      · refine pm_irun 3 (σ' := (114, [some (.ref 0), some (.int a1), none, none, none, some (.int a5), some (.int a6)], [.int a5, .ref 37], M17)) rfl ?_
                        refine pm_icV (as := [.ref 37, .int a5]) (rest := []) rfl rfl rfl rfl (Nat.le_of_ble_eq_true rfl) rfl (fun r h => pm_Ev_mono (Nat.le_of_ble_eq_true rfl) (sTape_append_ok a5 M17 r h)) (fun M21 => ?_)
                        show pm_Im _ _ _ _ _ _ (117, [some (.ref 0), some (.int a1), none, none, none, some (.int a5), some (.int a6)], [], M21)
                        refine pm_iwk (al' := [some (.ref 0), some (.int a1), none, none, none, none, some (.int a6)]) (pm_wkS (pm_wkS (pm_wkS (pm_wkS (pm_wkS (pm_wkN (pm_wkS pm_wk0))))))) ?_
                        exact hj18 _
                    refine pm_iite (σ1 := (103, [some (.ref 0), some (.int a1), none, none, some (.int a4), some (.int a5), some (.int a6)], [], M15)) (σ2 := (94, [some (.ref 0), some (.int a1), none, none, some (.int a4), some (.int a5), some (.int a6)], [], M15)) rfl (fun _ => ?_) (fun _ => ?_)
                    · refine pm_iwk (al' := [some (.ref 0), some (.int a1), none, none, none, some (.int a5), some (.int a6)]) (pm_wkS (pm_wkS (pm_wkS (pm_wkS (pm_wkN (pm_wkS (pm_wkS pm_wk0))))))) ?_
                      exact hj16 _
                    · refine pm_irun 3 (σ' := (100, [some (.ref 0), some (.int a1), none, none, some (.int a4), some (.int a5), some (.int a6)], [.int a4, .ref 37], M15)) rfl ?_
                      refine pm_icV (as := [.ref 37, .int a4]) (rest := []) rfl rfl rfl rfl (Nat.le_of_ble_eq_true rfl) rfl (fun r h => pm_Ev_mono (Nat.le_of_ble_eq_true rfl) (sTape_append_ok a4 M15 r h)) (fun M22 => ?_)
                      show pm_Im _ _ _ _ _ _ (103, [some (.ref 0), some (.int a1), none, none, some (.int a4), some (.int a5), some (.int a6)], [], M22)
                      refine pm_iwk (al' := [some (.ref 0), some (.int a1), none, none, none, some (.int a5), some (.int a6)]) (pm_wkS (pm_wkS (pm_wkS (pm_wkS (pm_wkN (pm_wkS (pm_wkS pm_wk0))))))) ?_
                      exact hj16 _
                  refine pm_iite (σ1 := (89, [some (.ref 0), some (.int a1), some (.int a2), some (.int a3), some (.int a4), some (.int a5), some (.int a6)], [], M13)) (σ2 := (81, [some (.ref 0), some (.int a1), some (.int a2), some (.int a3), some (.int a4), some (.int a5), some (.int a6)], [], M13)) rfl (fun _ => ?_) (fun _ => ?_)
                  · refine pm_iwk (al' := [some (.ref 0), some (.int a1), none, none, some (.int a4), some (.int a5), some (.int a6)]) (pm_wkS (pm_wkS (pm_wkN (pm_wkN (pm_wkS (pm_wkS (pm_wkS pm_wk0))))))) ?_
                    exact hj14 _
                  · refine pm_irun 3 (σ' := (86, [some (.ref 0), some (.int a1), some (.int a2), some (.int a3), some (.int a4), some (.int a5), some (.int a6)], [.int a3, .ref 37], M13)) rfl ?_
                    refine pm_icV (as := [.ref 37, .int a3]) (rest := []) rfl rfl rfl rfl (Nat.le_of_ble_eq_true rfl) rfl (fun r h => pm_Ev_mono (Nat.le_of_ble_eq_true rfl) (sTape_append_ok a3 M13 r h)) (fun M23 => ?_)
                    show pm_Im _ _ _ _ _ _ (89, [some (.ref 0), some (.int a1), some (.int a2), some (.int a3), some (.int a4), some (.int a5), some (.int a6)], [], M23)
                    refine pm_iwk (al' := [some (.ref 0), some (.int a1), none, none, some (.int a4), some (.int a5), some (.int a6)]) (pm_wkS (pm_wkS (pm_wkN (pm_wkN (pm_wkS (pm_wkS (pm_wkS pm_wk0))))))) ?_
                    exact hj14 _
                · refine pm_irun 1 (σ' := (67, [some (.ref 0), some (.int a1), some (.int a2), some (.int a3), some (.int a4), some (.int a5), some (.int a6)], [.int (-4 : Int32)], M11)) rfl ?_
                  exact pm_irI rfl rfl
              · refine pm_irun 1 (σ' := (53, [some (.ref 0), some (.int a1), some (.int a2), some (.int a3), some (.int a4), some (.int a5), some (.int a6)], [.int (-2 : Int32)], M9)) rfl ?_
                exact pm_irI rfl rfl
    · refine pm_irun 1 (σ' := (12, [some (.ref 0), some (.int a1), some (.int a2), some (.int a3), some (.int a4), some (.int a5), some (.int a6)], [.int (-2 : Int32)], M)) rfl ?_
      exact pm_irI rfl rfl
def sR_feed (a1 : Int32) (a2 : Int32) (a3 : Int32) (a4 : Int32) (a5 : Int32) (a6 : Int32) (M : pm_M) : Option (Int32 × pm_M) := pm_bd (sR_in (a1.toInt64) (1 : Int64) (5 : Int64) M) fun v2 M1 => if v2 = 0 then (some ((-2 : Int32), M1)) else (pm_bd (sR_in (a2.toInt64) (0 : Int64) (255 : Int64) M1) fun v4 M3 => if v4 = 0 then (some ((-2 : Int32), M3)) else (pm_bd (sR_in (a3.toInt64) (0 : Int64) (255 : Int64) M3) fun v6 M5 => if v6 = 0 then (some ((-2 : Int32), M5)) else (pm_bd (sR_in (a4.toInt64) (0 : Int64) (255 : Int64) M5) fun v8 M7 => if v8 = 0 then (some ((-2 : Int32), M7)) else (pm_bd (sR_in (a5.toInt64) (0 : Int64) (255 : Int64) M7) fun v10 M9 => if v10 = 0 then (some ((-2 : Int32), M9)) else (pm_bd (sR_in (a6.toInt64) (0 : Int64) (255 : Int64) M9) fun v12 M11 => if ¬ v12 = 0 then (if ((M11.1 49 9) + a1) ≤ (60 : Int32) then (pm_loop (fun _ _ => none) (fun (g13 : Int32 → pm_M → Option (Int32 × pm_M)) x15 M14 => if a1 ≤ x15 then (some ((M14.1 49 9), M14)) else (pm_jn (fun (q18 : Int32) (M17 : pm_M) => if pm_in (M14.1 49 9) 60 then (pm_lt (pm_sI M17 56 (M14.1 49 9).toNatClampNeg q18) fun M19 => pm_lt (pm_sI M19 49 9 (((M19.1 49 9) + (1 : Int32)))) fun M20 => pm_lt ((x15 + (1 : Int32))) fun x21 => g13 x21 M20) else none) fun (j16 : Int32 → pm_M → Option (Int32 × pm_M)) => if ¬ x15 = 0 then (if ¬ x15 = (1 : Int32) then (if ¬ x15 = (2 : Int32) then (if ¬ x15 = (3 : Int32) then (j16 a6 M14) else (j16 a5 M14)) else (j16 a4 M14)) else (j16 a3 M14)) else (j16 a2 M14))) 1000000 (0 : Int32) M11) else (some ((-4 : Int32), M11))) else (some ((-2 : Int32), M11)))))))
abbrev I_R_feed (sh : Option (Int32 × pm_M)) (σ : pm_St) : Prop := pm_Im none (pm_Ev 1) pm_T132 (some .int) pm_rI sh σ
set_option maxHeartbeats 4000000 in
set_option maxRecDepth 100000 in
theorem sR_feed_ok (a1 : Int32) (a2 : Int32) (a3 : Int32) (a4 : Int32) (a5 : Int32) (a6 : Int32) (M : pm_M) : ∀ r, sR_feed a1 a2 a3 a4 a5 a6 M = some r → pm_Ev 2 132 [.ref 49, .int a1, .int a2, .int a3, .int a4, .int a5, .int a6] M (pm_rI r).1 (pm_rI r).2 := by
  refine pm_meth (al := [some (.ref 49), some (.int a1), some (.int a2), some (.int a3), some (.int a4), some (.int a5), some (.int a6), none]) rfl rfl rfl rfl rfl ?_
  unfold sR_feed
  show I_R_feed _ (0, [some (.ref 49), some (.int a1), some (.int a2), some (.int a3), some (.int a4), some (.int a5), some (.int a6), none], [], M)
  refine pm_irun 4 (σ' := (6, [some (.ref 49), some (.int a1), some (.int a2), some (.int a3), some (.int a4), some (.int a5), some (.int a6), none], [.long (5 : Int64), .long (1 : Int64), .long a1.toInt64], M)) rfl ?_
  refine pm_icI (as := [.long a1.toInt64, .long (1 : Int64), .long (5 : Int64)]) (rest := []) rfl rfl rfl rfl (Nat.le_of_ble_eq_true rfl) rfl (fun r h => pm_Ev_mono (Nat.le_of_ble_eq_true rfl) (sR_in_ok (a1.toInt64) (1 : Int64) (5 : Int64) M r h)) (fun v2 M1 => ?_)
  show pm_Im _ _ _ _ _ _ (9, [some (.ref 49), some (.int a1), some (.int a2), some (.int a3), some (.int a4), some (.int a5), some (.int a6), none], [.int v2], M1)
  refine pm_iite (σ1 := (75, [some (.ref 49), some (.int a1), some (.int a2), some (.int a3), some (.int a4), some (.int a5), some (.int a6), none], [], M1)) (σ2 := (12, [some (.ref 49), some (.int a1), some (.int a2), some (.int a3), some (.int a4), some (.int a5), some (.int a6), none], [], M1)) rfl (fun _ => ?_) (fun _ => ?_)
  · refine pm_irun 1 (σ' := (77, [some (.ref 49), some (.int a1), some (.int a2), some (.int a3), some (.int a4), some (.int a5), some (.int a6), none], [.int (-2 : Int32)], M1)) rfl ?_
    exact pm_irI rfl rfl
  · refine pm_irun 4 (σ' := (18, [some (.ref 49), some (.int a1), some (.int a2), some (.int a3), some (.int a4), some (.int a5), some (.int a6), none], [.long (255 : Int64), .long (0 : Int64), .long a2.toInt64], M1)) rfl ?_
    refine pm_icI (as := [.long a2.toInt64, .long (0 : Int64), .long (255 : Int64)]) (rest := []) rfl rfl rfl rfl (Nat.le_of_ble_eq_true rfl) rfl (fun r h => pm_Ev_mono (Nat.le_of_ble_eq_true rfl) (sR_in_ok (a2.toInt64) (0 : Int64) (255 : Int64) M1 r h)) (fun v4 M3 => ?_)
    show pm_Im _ _ _ _ _ _ (21, [some (.ref 49), some (.int a1), some (.int a2), some (.int a3), some (.int a4), some (.int a5), some (.int a6), none], [.int v4], M3)
    refine pm_iite (σ1 := (75, [some (.ref 49), some (.int a1), some (.int a2), some (.int a3), some (.int a4), some (.int a5), some (.int a6), none], [], M3)) (σ2 := (24, [some (.ref 49), some (.int a1), some (.int a2), some (.int a3), some (.int a4), some (.int a5), some (.int a6), none], [], M3)) rfl (fun _ => ?_) (fun _ => ?_)
    · refine pm_irun 1 (σ' := (77, [some (.ref 49), some (.int a1), some (.int a2), some (.int a3), some (.int a4), some (.int a5), some (.int a6), none], [.int (-2 : Int32)], M3)) rfl ?_
      exact pm_irI rfl rfl
    · refine pm_irun 4 (σ' := (30, [some (.ref 49), some (.int a1), some (.int a2), some (.int a3), some (.int a4), some (.int a5), some (.int a6), none], [.long (255 : Int64), .long (0 : Int64), .long a3.toInt64], M3)) rfl ?_
      refine pm_icI (as := [.long a3.toInt64, .long (0 : Int64), .long (255 : Int64)]) (rest := []) rfl rfl rfl rfl (Nat.le_of_ble_eq_true rfl) rfl (fun r h => pm_Ev_mono (Nat.le_of_ble_eq_true rfl) (sR_in_ok (a3.toInt64) (0 : Int64) (255 : Int64) M3 r h)) (fun v6 M5 => ?_)
      show pm_Im _ _ _ _ _ _ (33, [some (.ref 49), some (.int a1), some (.int a2), some (.int a3), some (.int a4), some (.int a5), some (.int a6), none], [.int v6], M5)
      refine pm_iite (σ1 := (75, [some (.ref 49), some (.int a1), some (.int a2), some (.int a3), some (.int a4), some (.int a5), some (.int a6), none], [], M5)) (σ2 := (36, [some (.ref 49), some (.int a1), some (.int a2), some (.int a3), some (.int a4), some (.int a5), some (.int a6), none], [], M5)) rfl (fun _ => ?_) (fun _ => ?_)
      · refine pm_irun 1 (σ' := (77, [some (.ref 49), some (.int a1), some (.int a2), some (.int a3), some (.int a4), some (.int a5), some (.int a6), none], [.int (-2 : Int32)], M5)) rfl ?_
        exact pm_irI rfl rfl
      · refine pm_irun 4 (σ' := (43, [some (.ref 49), some (.int a1), some (.int a2), some (.int a3), some (.int a4), some (.int a5), some (.int a6), none], [.long (255 : Int64), .long (0 : Int64), .long a4.toInt64], M5)) rfl ?_
        refine pm_icI (as := [.long a4.toInt64, .long (0 : Int64), .long (255 : Int64)]) (rest := []) rfl rfl rfl rfl (Nat.le_of_ble_eq_true rfl) rfl (fun r h => pm_Ev_mono (Nat.le_of_ble_eq_true rfl) (sR_in_ok (a4.toInt64) (0 : Int64) (255 : Int64) M5 r h)) (fun v8 M7 => ?_)
        show pm_Im _ _ _ _ _ _ (46, [some (.ref 49), some (.int a1), some (.int a2), some (.int a3), some (.int a4), some (.int a5), some (.int a6), none], [.int v8], M7)
        refine pm_iite (σ1 := (75, [some (.ref 49), some (.int a1), some (.int a2), some (.int a3), some (.int a4), some (.int a5), some (.int a6), none], [], M7)) (σ2 := (49, [some (.ref 49), some (.int a1), some (.int a2), some (.int a3), some (.int a4), some (.int a5), some (.int a6), none], [], M7)) rfl (fun _ => ?_) (fun _ => ?_)
        · refine pm_irun 1 (σ' := (77, [some (.ref 49), some (.int a1), some (.int a2), some (.int a3), some (.int a4), some (.int a5), some (.int a6), none], [.int (-2 : Int32)], M7)) rfl ?_
          exact pm_irI rfl rfl
        · refine pm_irun 4 (σ' := (56, [some (.ref 49), some (.int a1), some (.int a2), some (.int a3), some (.int a4), some (.int a5), some (.int a6), none], [.long (255 : Int64), .long (0 : Int64), .long a5.toInt64], M7)) rfl ?_
          refine pm_icI (as := [.long a5.toInt64, .long (0 : Int64), .long (255 : Int64)]) (rest := []) rfl rfl rfl rfl (Nat.le_of_ble_eq_true rfl) rfl (fun r h => pm_Ev_mono (Nat.le_of_ble_eq_true rfl) (sR_in_ok (a5.toInt64) (0 : Int64) (255 : Int64) M7 r h)) (fun v10 M9 => ?_)
          show pm_Im _ _ _ _ _ _ (59, [some (.ref 49), some (.int a1), some (.int a2), some (.int a3), some (.int a4), some (.int a5), some (.int a6), none], [.int v10], M9)
          refine pm_iite (σ1 := (75, [some (.ref 49), some (.int a1), some (.int a2), some (.int a3), some (.int a4), some (.int a5), some (.int a6), none], [], M9)) (σ2 := (62, [some (.ref 49), some (.int a1), some (.int a2), some (.int a3), some (.int a4), some (.int a5), some (.int a6), none], [], M9)) rfl (fun _ => ?_) (fun _ => ?_)
          · refine pm_irun 1 (σ' := (77, [some (.ref 49), some (.int a1), some (.int a2), some (.int a3), some (.int a4), some (.int a5), some (.int a6), none], [.int (-2 : Int32)], M9)) rfl ?_
            exact pm_irI rfl rfl
          · refine pm_irun 4 (σ' := (69, [some (.ref 49), some (.int a1), some (.int a2), some (.int a3), some (.int a4), some (.int a5), some (.int a6), none], [.long (255 : Int64), .long (0 : Int64), .long a6.toInt64], M9)) rfl ?_
            refine pm_icI (as := [.long a6.toInt64, .long (0 : Int64), .long (255 : Int64)]) (rest := []) rfl rfl rfl rfl (Nat.le_of_ble_eq_true rfl) rfl (fun r h => pm_Ev_mono (Nat.le_of_ble_eq_true rfl) (sR_in_ok (a6.toInt64) (0 : Int64) (255 : Int64) M9 r h)) (fun v12 M11 => ?_)
            show pm_Im _ _ _ _ _ _ (72, [some (.ref 49), some (.int a1), some (.int a2), some (.int a3), some (.int a4), some (.int a5), some (.int a6), none], [.int v12], M11)
            refine pm_iite (σ1 := (78, [some (.ref 49), some (.int a1), some (.int a2), some (.int a3), some (.int a4), some (.int a5), some (.int a6), none], [], M11)) (σ2 := (75, [some (.ref 49), some (.int a1), some (.int a2), some (.int a3), some (.int a4), some (.int a5), some (.int a6), none], [], M11)) rfl (fun _ => ?_) (fun _ => ?_)
            · refine pm_irun 5 (σ' := (86, [some (.ref 49), some (.int a1), some (.int a2), some (.int a3), some (.int a4), some (.int a5), some (.int a6), none], [.int (60 : Int32), .int ((M11.1 49 9) + a1)], M11)) rfl ?_
              refine pm_iite (σ1 := (92, [some (.ref 49), some (.int a1), some (.int a2), some (.int a3), some (.int a4), some (.int a5), some (.int a6), none], [], M11)) (σ2 := (89, [some (.ref 49), some (.int a1), some (.int a2), some (.int a3), some (.int a4), some (.int a5), some (.int a6), none], [], M11)) rfl (fun _ => ?_) (fun _ => ?_)
              · refine pm_irun 2 (σ' := (95, [some (.ref 49), some (.int a1), some (.int a2), some (.int a3), some (.int a4), some (.int a5), some (.int a6), some (.int (0 : Int32))], [], M11)) rfl ?_
                refine pm_iloop (fun (g : Int32 → pm_M → Option (Int32 × pm_M)) => ∀ (x15 : Int32) (M14 : pm_M), I_R_feed (g x15 M14) (95, [some (.ref 49), some (.int a1), some (.int a2), some (.int a3), some (.int a4), some (.int a5), some (.int a6), some (.int x15)], [], M14)) (fun _ _ => pm_inone) (fun g13 hg13 x15 M14 => ?_) 1000000 _ _
                show I_R_feed _ (95, [some (.ref 49), some (.int a1), some (.int a2), some (.int a3), some (.int a4), some (.int a5), some (.int a6), some (.int x15)], [], M14)
                refine pm_irun 2 (σ' := (98, [some (.ref 49), some (.int a1), some (.int a2), some (.int a3), some (.int a4), some (.int a5), some (.int a6), some (.int x15)], [.int a1, .int x15], M14)) rfl ?_
                refine pm_iite (σ1 := (169, [some (.ref 49), some (.int a1), some (.int a2), some (.int a3), some (.int a4), some (.int a5), some (.int a6), some (.int x15)], [], M14)) (σ2 := (101, [some (.ref 49), some (.int a1), some (.int a2), some (.int a3), some (.int a4), some (.int a5), some (.int a6), some (.int x15)], [], M14)) rfl (fun _ => ?_) (fun _ => ?_)
                · refine pm_irun 2 (σ' := (173, [some (.ref 49), some (.int a1), some (.int a2), some (.int a3), some (.int a4), some (.int a5), some (.int a6), some (.int x15)], [.int (M14.1 49 9)], M14)) rfl ?_
                  exact pm_irI rfl rfl
                · refine pm_irun 5 (σ' := (111, [some (.ref 49), some (.int a1), some (.int a2), some (.int a3), some (.int a4), some (.int a5), some (.int a6), some (.int x15)], [.int x15, .int (M14.1 49 9), .ref 56], M14)) rfl ?_
                  refine pm_ijn (fun (g : Int32 → pm_M → Option (Int32 × pm_M)) => ∀ (q18 : Int32) (M17 : pm_M), I_R_feed (g q18 M17) (152, [some (.ref 49), some (.int a1), some (.int a2), some (.int a3), some (.int a4), some (.int a5), some (.int a6), some (.int x15)], [.int q18, .int (M14.1 49 9), .ref 56], M17)) (fun (q18 : Int32) (M17 : pm_M) => ?_) (fun j16 hj16 => ?_)
                  · show I_R_feed _ (152, [some (.ref 49), some (.int a1), some (.int a2), some (.int a3), some (.int a4), some (.int a5), some (.int a6), some (.int x15)], [.int q18, .int (M14.1 49 9), .ref 56], M17)
                    refine pm_igd (σ1 := (153, [some (.ref 49), some (.int a1), some (.int a2), some (.int a3), some (.int a4), some (.int a5), some (.int a6), some (.int x15)], [], (pm_sI M17 56 (M14.1 49 9).toNatClampNeg q18))) rfl (fun _ => ?_)
                    refine pm_ilt (fun y => (153, [some (.ref 49), some (.int a1), some (.int a2), some (.int a3), some (.int a4), some (.int a5), some (.int a6), some (.int x15)], [], y)) (fun M19 => ?_)
                    refine pm_irun 5 (σ' := (160, [some (.ref 49), some (.int a1), some (.int a2), some (.int a3), some (.int a4), some (.int a5), some (.int a6), some (.int x15)], [.int ((M19.1 49 9) + (1 : Int32)), .ref 49], M19)) rfl ?_
                    refine pm_irun 1 (σ' := (163, [some (.ref 49), some (.int a1), some (.int a2), some (.int a3), some (.int a4), some (.int a5), some (.int a6), some (.int x15)], [], (pm_sI M19 49 9 (((M19.1 49 9) + (1 : Int32)))))) rfl ?_
                    refine pm_ilt (fun y => (163, [some (.ref 49), some (.int a1), some (.int a2), some (.int a3), some (.int a4), some (.int a5), some (.int a6), some (.int x15)], [], y)) (fun M20 => ?_)
                    refine pm_irun 1 (σ' := (166, [some (.ref 49), some (.int a1), some (.int a2), some (.int a3), some (.int a4), some (.int a5), some (.int a6), some (.int (x15 + (1 : Int32)))], [], M20)) rfl ?_
                    refine pm_ilt (fun y => (166, [some (.ref 49), some (.int a1), some (.int a2), some (.int a3), some (.int a4), some (.int a5), some (.int a6), some (.int y)], [], M20)) (fun x21 => ?_)
                    refine pm_irun 1 (σ' := (95, [some (.ref 49), some (.int a1), some (.int a2), some (.int a3), some (.int a4), some (.int a5), some (.int a6), some (.int x21)], [], M20)) rfl ?_
                    exact hg13 _ _
                  refine pm_iite (σ1 := (118, [some (.ref 49), some (.int a1), some (.int a2), some (.int a3), some (.int a4), some (.int a5), some (.int a6), some (.int x15)], [.int (M14.1 49 9), .ref 56], M14)) (σ2 := (114, [some (.ref 49), some (.int a1), some (.int a2), some (.int a3), some (.int a4), some (.int a5), some (.int a6), some (.int x15)], [.int (M14.1 49 9), .ref 56], M14)) rfl (fun _ => ?_) (fun _ => ?_)
                  · refine pm_irun 2 (σ' := (121, [some (.ref 49), some (.int a1), some (.int a2), some (.int a3), some (.int a4), some (.int a5), some (.int a6), some (.int x15)], [.int (1 : Int32), .int x15, .int (M14.1 49 9), .ref 56], M14)) rfl ?_
                    refine pm_iite (σ1 := (128, [some (.ref 49), some (.int a1), some (.int a2), some (.int a3), some (.int a4), some (.int a5), some (.int a6), some (.int x15)], [.int (M14.1 49 9), .ref 56], M14)) (σ2 := (124, [some (.ref 49), some (.int a1), some (.int a2), some (.int a3), some (.int a4), some (.int a5), some (.int a6), some (.int x15)], [.int (M14.1 49 9), .ref 56], M14)) rfl (fun _ => ?_) (fun _ => ?_)
                    · refine pm_irun 2 (σ' := (131, [some (.ref 49), some (.int a1), some (.int a2), some (.int a3), some (.int a4), some (.int a5), some (.int a6), some (.int x15)], [.int (2 : Int32), .int x15, .int (M14.1 49 9), .ref 56], M14)) rfl ?_
                      refine pm_iite (σ1 := (139, [some (.ref 49), some (.int a1), some (.int a2), some (.int a3), some (.int a4), some (.int a5), some (.int a6), some (.int x15)], [.int (M14.1 49 9), .ref 56], M14)) (σ2 := (134, [some (.ref 49), some (.int a1), some (.int a2), some (.int a3), some (.int a4), some (.int a5), some (.int a6), some (.int x15)], [.int (M14.1 49 9), .ref 56], M14)) rfl (fun _ => ?_) (fun _ => ?_)
                      · refine pm_irun 2 (σ' := (142, [some (.ref 49), some (.int a1), some (.int a2), some (.int a3), some (.int a4), some (.int a5), some (.int a6), some (.int x15)], [.int (3 : Int32), .int x15, .int (M14.1 49 9), .ref 56], M14)) rfl ?_
                        refine pm_iite (σ1 := (150, [some (.ref 49), some (.int a1), some (.int a2), some (.int a3), some (.int a4), some (.int a5), some (.int a6), some (.int x15)], [.int (M14.1 49 9), .ref 56], M14)) (σ2 := (145, [some (.ref 49), some (.int a1), some (.int a2), some (.int a3), some (.int a4), some (.int a5), some (.int a6), some (.int x15)], [.int (M14.1 49 9), .ref 56], M14)) rfl (fun _ => ?_) (fun _ => ?_)
                        · refine pm_irun 1 (σ' := (152, [some (.ref 49), some (.int a1), some (.int a2), some (.int a3), some (.int a4), some (.int a5), some (.int a6), some (.int x15)], [.int a6, .int (M14.1 49 9), .ref 56], M14)) rfl ?_
                          exact hj16 _ _
                        · refine pm_irun 2 (σ' := (152, [some (.ref 49), some (.int a1), some (.int a2), some (.int a3), some (.int a4), some (.int a5), some (.int a6), some (.int x15)], [.int a5, .int (M14.1 49 9), .ref 56], M14)) rfl ?_
                          exact hj16 _ _
                      · refine pm_irun 2 (σ' := (152, [some (.ref 49), some (.int a1), some (.int a2), some (.int a3), some (.int a4), some (.int a5), some (.int a6), some (.int x15)], [.int a4, .int (M14.1 49 9), .ref 56], M14)) rfl ?_
                        exact hj16 _ _
                    · refine pm_irun 2 (σ' := (152, [some (.ref 49), some (.int a1), some (.int a2), some (.int a3), some (.int a4), some (.int a5), some (.int a6), some (.int x15)], [.int a3, .int (M14.1 49 9), .ref 56], M14)) rfl ?_
                      exact hj16 _ _
                  · refine pm_irun 2 (σ' := (152, [some (.ref 49), some (.int a1), some (.int a2), some (.int a3), some (.int a4), some (.int a5), some (.int a6), some (.int x15)], [.int a2, .int (M14.1 49 9), .ref 56], M14)) rfl ?_
                    exact hj16 _ _
              · refine pm_irun 1 (σ' := (91, [some (.ref 49), some (.int a1), some (.int a2), some (.int a3), some (.int a4), some (.int a5), some (.int a6), none], [.int (-4 : Int32)], M11)) rfl ?_
                exact pm_irI rfl rfl
            · refine pm_irun 1 (σ' := (77, [some (.ref 49), some (.int a1), some (.int a2), some (.int a3), some (.int a4), some (.int a5), some (.int a6), none], [.int (-2 : Int32)], M11)) rfl ?_
              exact pm_irI rfl rfl
def sTape_clauseSize (a1 : Int32) (M : pm_M) : Option (Int32 × pm_M) := if a1 = Int32.ofNat 104 then (some ((3 : Int32), M)) else if a1 = Int32.ofNat 110 then (some ((3 : Int32), M)) else if a1 = Int32.ofNat 114 then (some ((5 : Int32), M)) else if a1 = Int32.ofNat 115 then (some ((4 : Int32), M)) else (some ((0 : Int32), M))
abbrev I_Tape_clauseSize (sh : Option (Int32 × pm_M)) (σ : pm_St) : Prop := pm_Im none (pm_Ev 0) pm_T34 (some .int) pm_rI sh σ
set_option maxHeartbeats 4000000 in
set_option maxRecDepth 100000 in
theorem sTape_clauseSize_ok (a1 : Int32) (M : pm_M) : ∀ r, sTape_clauseSize a1 M = some r → pm_Ev 1 34 [.int a1] M (pm_rI r).1 (pm_rI r).2 := by
  refine pm_meth (al := [some (.int a1)]) rfl rfl rfl rfl rfl ?_
  unfold sTape_clauseSize
  show I_Tape_clauseSize _ (0, [some (.int a1)], [], M)
  refine pm_irun 1 (σ' := (1, [some (.int a1)], [.int a1], M)) rfl ?_
  refine pm_irun 1 (σ' := (pm_sw a1 52 [104, 48, 110, 50, 114, 46, 115, 44], [some (.int a1)], [], M)) rfl ?_
  refine pm_isw (fun _ => ?_) (fun _ => ?_)
  · show pm_Im _ _ _ _ _ _ (48, [some (.int a1)], [], M)
    refine pm_irun 1 (σ' := (49, [some (.int a1)], [.int (3 : Int32)], M)) rfl ?_
    exact pm_irI rfl rfl
  refine pm_isw (fun _ => ?_) (fun _ => ?_)
  · show pm_Im _ _ _ _ _ _ (50, [some (.int a1)], [], M)
    refine pm_irun 1 (σ' := (51, [some (.int a1)], [.int (3 : Int32)], M)) rfl ?_
    exact pm_irI rfl rfl
  refine pm_isw (fun _ => ?_) (fun _ => ?_)
  · show pm_Im _ _ _ _ _ _ (46, [some (.int a1)], [], M)
    refine pm_irun 1 (σ' := (47, [some (.int a1)], [.int (5 : Int32)], M)) rfl ?_
    exact pm_irI rfl rfl
  refine pm_isw (fun _ => ?_) (fun _ => ?_)
  · show pm_Im _ _ _ _ _ _ (44, [some (.int a1)], [], M)
    refine pm_irun 1 (σ' := (45, [some (.int a1)], [.int (4 : Int32)], M)) rfl ?_
    exact pm_irI rfl rfl
  show pm_Im _ _ _ _ _ _ (52, [some (.int a1)], [], M)
  refine pm_irun 1 (σ' := (53, [some (.int a1)], [.int (0 : Int32)], M)) rfl ?_
  exact pm_irI rfl rfl
def sTape_faultPlace  (M : pm_M) : Option (Int32 × pm_M) := pm_loop (fun _ _ _ => none) (fun (g1 : Int32 → Int32 → pm_M → Option (Int32 × pm_M)) x3 x4 M2 => if (M2.1 37 0) ≤ x4 then (if ¬ x3 = (M2.1 37 0) then (some ((M2.1 37 0), M2)) else (if (M2.1 37 0) ≤ 0 then (some ((M2.1 37 0), M2)) else (some ((-1 : Int32), M2)))) else (if pm_in x4 60 then (pm_lt ((M2.1 38 x4.toNatClampNeg)) fun x5 => pm_jn (fun (x8 : Int32) (x9 : Int32) (M7 : pm_M) => if ¬ x9 = 0 then (pm_lt ((x4 + (1 : Int32))) fun x10 => g1 x8 x10 M7) else (some (x4, M7))) fun (j6 : Int32 → Int32 → pm_M → Option (Int32 × pm_M)) => pm_jn (fun (M12 : pm_M) => pm_jn (fun (M14 : pm_M) => pm_bd (sTape_clauseSize x5 M14) fun v16 M15 => pm_jn (fun (q19 : Int32) (M18 : pm_M) => pm_bd (sTape_clauseSize x5 M18) fun v21 M20 => pm_lt ((x4 + v21)) fun x22 => j6 x22 q19 M20) fun (j17 : Int32 → pm_M → Option (Int32 × pm_M)) => if v16 ≤ 0 then (j17 (0 : Int32) M15) else (j17 (1 : Int32) M15)) fun (j13 : pm_M → Option (Int32 × pm_M)) => if x4 = 0 then (j13 M12) else (if ¬ x4 = (x3 + (1 : Int32)) then (if x5 < (48 : Int32) then (j6 x3 (0 : Int32) M12) else (if (57 : Int32) < x5 then (j6 x3 (0 : Int32) M12) else (j6 x3 (1 : Int32) M12))) else (j13 M12))) fun (j11 : pm_M → Option (Int32 × pm_M)) => if ¬ x4 = x3 then (j11 M2) else (if x4 ≤ 0 then (j11 M2) else (if ¬ x5 = (59 : Int32) then (j6 x3 (0 : Int32) M2) else (j6 x3 (1 : Int32) M2)))) else none)) 1000000 (0 : Int32) (0 : Int32) M
abbrev I_Tape_faultPlace (sh : Option (Int32 × pm_M)) (σ : pm_St) : Prop := pm_Im none (pm_Ev 1) pm_T35 (some .int) pm_rI sh σ
set_option maxHeartbeats 4000000 in
set_option maxRecDepth 100000 in
theorem sTape_faultPlace_ok  (M : pm_M) : ∀ r, sTape_faultPlace  M = some r → pm_Ev 2 35 [.ref 37] M (pm_rI r).1 (pm_rI r).2 := by
  refine pm_meth (al := [some (.ref 37), none, none, none, none]) rfl rfl rfl rfl rfl ?_
  unfold sTape_faultPlace
  show I_Tape_faultPlace _ (0, [some (.ref 37), none, none, none, none], [], M)
  refine pm_irun 2 (σ' := (2, [some (.ref 37), some (.int (0 : Int32)), none, none, none], [], M)) rfl ?_
  refine pm_irun 2 (σ' := (4, [some (.ref 37), some (.int (0 : Int32)), some (.int (0 : Int32)), none, none], [], M)) rfl ?_
  refine pm_iloop (fun (g : Int32 → Int32 → pm_M → Option (Int32 × pm_M)) => ∀ (x3 : Int32) (x4 : Int32) (M2 : pm_M), I_Tape_faultPlace (g x3 x4 M2) (4, [some (.ref 37), some (.int x3), some (.int x4), none, none], [], M2)) (fun _ _ _ => pm_inone) (fun g1 hg1 x3 x4 M2 => ?_) 1000000 _ _ _
  show I_Tape_faultPlace _ (4, [some (.ref 37), some (.int x3), some (.int x4), none, none], [], M2)
  refine pm_irun 3 (σ' := (9, [some (.ref 37), some (.int x3), some (.int x4), none, none], [.int (M2.1 37 0), .int x4], M2)) rfl ?_
  refine pm_iite (σ1 := (111, [some (.ref 37), some (.int x3), some (.int x4), none, none], [], M2)) (σ2 := (12, [some (.ref 37), some (.int x3), some (.int x4), none, none], [], M2)) rfl (fun _ => ?_) (fun _ => ?_)
  · refine pm_irun 3 (σ' := (116, [some (.ref 37), some (.int x3), some (.int x4), none, none], [.int (M2.1 37 0), .int x3], M2)) rfl ?_
    refine pm_iite (σ1 := (130, [some (.ref 37), some (.int x3), some (.int x4), none, none], [], M2)) (σ2 := (119, [some (.ref 37), some (.int x3), some (.int x4), none, none], [], M2)) rfl (fun _ => ?_) (fun _ => ?_)
    · refine pm_irun 2 (σ' := (134, [some (.ref 37), some (.int x3), some (.int x4), none, none], [.int (M2.1 37 0)], M2)) rfl ?_
      exact pm_irI rfl rfl
    · refine pm_irun 2 (σ' := (123, [some (.ref 37), some (.int x3), some (.int x4), none, none], [.int (M2.1 37 0)], M2)) rfl ?_
      refine pm_iite (σ1 := (130, [some (.ref 37), some (.int x3), some (.int x4), none, none], [], M2)) (σ2 := (126, [some (.ref 37), some (.int x3), some (.int x4), none, none], [], M2)) rfl (fun _ => ?_) (fun _ => ?_)
      · refine pm_irun 2 (σ' := (134, [some (.ref 37), some (.int x3), some (.int x4), none, none], [.int (M2.1 37 0)], M2)) rfl ?_
        exact pm_irI rfl rfl
      · refine pm_irun 2 (σ' := (134, [some (.ref 37), some (.int x3), some (.int x4), none, none], [.int (-1 : Int32)], M2)) rfl ?_
        exact pm_irI rfl rfl
  · refine pm_irun 3 (σ' := (17, [some (.ref 37), some (.int x3), some (.int x4), none, none], [.int x4, .ref 38], M2)) rfl ?_
    refine pm_igd (σ1 := (18, [some (.ref 37), some (.int x3), some (.int x4), none, none], [.int (M2.1 38 x4.toNatClampNeg)], M2)) rfl (fun _ => ?_)
    refine pm_irun 1 (σ' := (19, [some (.ref 37), some (.int x3), some (.int x4), some (.int (M2.1 38 x4.toNatClampNeg)), none], [], M2)) rfl ?_
    refine pm_ilt (fun y => (19, [some (.ref 37), some (.int x3), some (.int x4), some (.int y), none], [], M2)) (fun x5 => ?_)
    refine pm_irun 2 (σ' := (21, [some (.ref 37), some (.int x3), some (.int x4), some (.int x5), none], [.int x3, .int x4], M2)) rfl ?_
    refine pm_ijn (fun (g : Int32 → Int32 → pm_M → Option (Int32 × pm_M)) => ∀ (x8 : Int32) (x9 : Int32) (M7 : pm_M), I_Tape_faultPlace (g x8 x9 M7) (98, [some (.ref 37), some (.int x8), some (.int x4), none, some (.int x9)], [], M7)) (fun (x8 : Int32) (x9 : Int32) (M7 : pm_M) => ?_) (fun j6 hj6 => ?_)
    · show I_Tape_faultPlace _ (98, [some (.ref 37), some (.int x8), some (.int x4), none, some (.int x9)], [], M7)
      refine pm_irun 1 (σ' := (100, [some (.ref 37), some (.int x8), some (.int x4), none, some (.int x9)], [.int x9], M7)) rfl ?_
      refine pm_iite (σ1 := (105, [some (.ref 37), some (.int x8), some (.int x4), none, some (.int x9)], [], M7)) (σ2 := (103, [some (.ref 37), some (.int x8), some (.int x4), none, some (.int x9)], [], M7)) rfl (fun _ => ?_) (fun _ => ?_)
      · refine pm_irun 1 (σ' := (108, [some (.ref 37), some (.int x8), some (.int (x4 + (1 : Int32))), none, some (.int x9)], [], M7)) rfl ?_
        refine pm_ilt (fun y => (108, [some (.ref 37), some (.int x8), some (.int y), none, some (.int x9)], [], M7)) (fun x10 => ?_)
        refine pm_irun 1 (σ' := (4, [some (.ref 37), some (.int x8), some (.int x10), none, some (.int x9)], [], M7)) rfl ?_
        refine pm_iwk (al' := [some (.ref 37), some (.int x8), some (.int x10), none, none]) (pm_wkS (pm_wkS (pm_wkS (pm_wkS (pm_wkN pm_wk0))))) ?_
        exact hg1 _ _ _
      · refine pm_irun 1 (σ' := (104, [some (.ref 37), some (.int x8), some (.int x4), none, some (.int x9)], [.int x4], M7)) rfl ?_
        exact pm_irI rfl rfl
    refine pm_ijn (fun (g : pm_M → Option (Int32 × pm_M)) => ∀ (M12 : pm_M), I_Tape_faultPlace (g M12) (44, [some (.ref 37), some (.int x3), some (.int x4), some (.int x5), none], [], M12)) (fun (M12 : pm_M) => ?_) (fun j11 hj11 => ?_)
    · show I_Tape_faultPlace _ (44, [some (.ref 37), some (.int x3), some (.int x4), some (.int x5), none], [], M12)
      refine pm_irun 1 (σ' := (45, [some (.ref 37), some (.int x3), some (.int x4), some (.int x5), none], [.int x4], M12)) rfl ?_
      refine pm_ijn (fun (g : pm_M → Option (Int32 × pm_M)) => ∀ (M14 : pm_M), I_Tape_faultPlace (g M14) (55, [some (.ref 37), none, some (.int x4), some (.int x5), none], [], M14)) (fun (M14 : pm_M) => ?_) (fun j13 hj13 => ?_)
      · show I_Tape_faultPlace _ (55, [some (.ref 37), none, some (.int x4), some (.int x5), none], [], M14)
        refine pm_irun 1 (σ' := (56, [some (.ref 37), none, some (.int x4), some (.int x5), none], [.int x5], M14)) rfl ?_
        refine pm_icI (as := [.int x5]) (rest := []) rfl rfl rfl rfl (Nat.le_of_ble_eq_true rfl) rfl (fun r h => pm_Ev_mono (Nat.le_of_ble_eq_true rfl) (sTape_clauseSize_ok x5 M14 r h)) (fun v16 M15 => ?_)
        show pm_Im _ _ _ _ _ _ (59, [some (.ref 37), none, some (.int x4), some (.int x5), none], [.int v16], M15)
        refine pm_ijn (fun (g : Int32 → pm_M → Option (Int32 × pm_M)) => ∀ (q19 : Int32) (M18 : pm_M), I_Tape_faultPlace (g q19 M18) (67, [some (.ref 37), none, some (.int x4), some (.int x5), none], [.int q19], M18)) (fun (q19 : Int32) (M18 : pm_M) => ?_) (fun j17 hj17 => ?_)
        · show I_Tape_faultPlace _ (67, [some (.ref 37), none, some (.int x4), some (.int x5), none], [.int q19], M18)
          refine pm_irun 1 (σ' := (69, [some (.ref 37), none, some (.int x4), some (.int x5), some (.int q19)], [], M18)) rfl ?_
          refine pm_irun 2 (σ' := (71, [some (.ref 37), none, some (.int x4), some (.int x5), some (.int q19)], [.int x5, .int x4], M18)) rfl ?_
          refine pm_icI (as := [.int x5]) (rest := [.int x4]) rfl rfl rfl rfl (Nat.le_of_ble_eq_true rfl) rfl (fun r h => pm_Ev_mono (Nat.le_of_ble_eq_true rfl) (sTape_clauseSize_ok x5 M18 r h)) (fun v21 M20 => ?_)
          show pm_Im _ _ _ _ _ _ (74, [some (.ref 37), none, some (.int x4), some (.int x5), some (.int q19)], [.int v21, .int x4], M20)
          refine pm_irun 2 (σ' := (76, [some (.ref 37), some (.int (x4 + v21)), some (.int x4), some (.int x5), some (.int q19)], [], M20)) rfl ?_
          refine pm_ilt (fun y => (76, [some (.ref 37), some (.int y), some (.int x4), some (.int x5), some (.int q19)], [], M20)) (fun x22 => ?_)
          refine pm_irun 1 (σ' := (98, [some (.ref 37), some (.int x22), some (.int x4), some (.int x5), some (.int q19)], [], M20)) rfl ?_
          refine pm_iwk (al' := [some (.ref 37), some (.int x22), some (.int x4), none, some (.int q19)]) (pm_wkS (pm_wkS (pm_wkS (pm_wkN (pm_wkS pm_wk0))))) ?_
          exact hj6 _ _ _
        refine pm_iite (σ1 := (66, [some (.ref 37), none, some (.int x4), some (.int x5), none], [], M15)) (σ2 := (62, [some (.ref 37), none, some (.int x4), some (.int x5), none], [], M15)) rfl (fun _ => ?_) (fun _ => ?_)
        · refine pm_irun 1 (σ' := (67, [some (.ref 37), none, some (.int x4), some (.int x5), none], [.int (0 : Int32)], M15)) rfl ?_
          exact hj17 _ _
        · refine pm_irun 2 (σ' := (67, [some (.ref 37), none, some (.int x4), some (.int x5), none], [.int (1 : Int32)], M15)) rfl ?_
          exact hj17 _ _
      refine pm_iite (σ1 := (55, [some (.ref 37), some (.int x3), some (.int x4), some (.int x5), none], [], M12)) (σ2 := (48, [some (.ref 37), some (.int x3), some (.int x4), some (.int x5), none], [], M12)) rfl (fun _ => ?_) (fun _ => ?_)
      · refine pm_iwk (al' := [some (.ref 37), none, some (.int x4), some (.int x5), none]) (pm_wkS (pm_wkN (pm_wkS (pm_wkS (pm_wkS pm_wk0))))) ?_
        exact hj13 _
      · refine pm_irun 4 (σ' := (52, [some (.ref 37), some (.int x3), some (.int x4), some (.int x5), none], [.int (x3 + (1 : Int32)), .int x4], M12)) rfl ?_
        refine pm_iite (σ1 := (79, [some (.ref 37), some (.int x3), some (.int x4), some (.int x5), none], [], M12)) (σ2 := (55, [some (.ref 37), some (.int x3), some (.int x4), some (.int x5), none], [], M12)) rfl (fun _ => ?_) (fun _ => ?_)
        · refine pm_irun 2 (σ' := (82, [some (.ref 37), some (.int x3), some (.int x4), some (.int x5), none], [.int (48 : Int32), .int x5], M12)) rfl ?_
          refine pm_iite (σ1 := (95, [some (.ref 37), some (.int x3), some (.int x4), some (.int x5), none], [], M12)) (σ2 := (85, [some (.ref 37), some (.int x3), some (.int x4), some (.int x5), none], [], M12)) rfl (fun _ => ?_) (fun _ => ?_)
          · refine pm_irun 2 (σ' := (98, [some (.ref 37), some (.int x3), some (.int x4), some (.int x5), some (.int (0 : Int32))], [], M12)) rfl ?_
            refine pm_iwk (al' := [some (.ref 37), some (.int x3), some (.int x4), none, some (.int (0 : Int32))]) (pm_wkS (pm_wkS (pm_wkS (pm_wkN (pm_wkS pm_wk0))))) ?_
            exact hj6 _ _ _
          · refine pm_irun 2 (σ' := (88, [some (.ref 37), some (.int x3), some (.int x4), some (.int x5), none], [.int (57 : Int32), .int x5], M12)) rfl ?_
            refine pm_iite (σ1 := (95, [some (.ref 37), some (.int x3), some (.int x4), some (.int x5), none], [], M12)) (σ2 := (91, [some (.ref 37), some (.int x3), some (.int x4), some (.int x5), none], [], M12)) rfl (fun _ => ?_) (fun _ => ?_)
            · refine pm_irun 2 (σ' := (98, [some (.ref 37), some (.int x3), some (.int x4), some (.int x5), some (.int (0 : Int32))], [], M12)) rfl ?_
              refine pm_iwk (al' := [some (.ref 37), some (.int x3), some (.int x4), none, some (.int (0 : Int32))]) (pm_wkS (pm_wkS (pm_wkS (pm_wkN (pm_wkS pm_wk0))))) ?_
              exact hj6 _ _ _
            · refine pm_irun 3 (σ' := (98, [some (.ref 37), some (.int x3), some (.int x4), some (.int x5), some (.int (1 : Int32))], [], M12)) rfl ?_
              refine pm_iwk (al' := [some (.ref 37), some (.int x3), some (.int x4), none, some (.int (1 : Int32))]) (pm_wkS (pm_wkS (pm_wkS (pm_wkN (pm_wkS pm_wk0))))) ?_
              exact hj6 _ _ _
        · refine pm_iwk (al' := [some (.ref 37), none, some (.int x4), some (.int x5), none]) (pm_wkS (pm_wkN (pm_wkS (pm_wkS (pm_wkS pm_wk0))))) ?_
          exact hj13 _
    refine pm_iite (σ1 := (44, [some (.ref 37), some (.int x3), some (.int x4), some (.int x5), none], [], M2)) (σ2 := (24, [some (.ref 37), some (.int x3), some (.int x4), some (.int x5), none], [], M2)) rfl (fun _ => ?_) (fun _ => ?_)
    · exact hj11 _
    · refine pm_irun 1 (σ' := (25, [some (.ref 37), some (.int x3), some (.int x4), some (.int x5), none], [.int x4], M2)) rfl ?_
      refine pm_iite (σ1 := (44, [some (.ref 37), some (.int x3), some (.int x4), some (.int x5), none], [], M2)) (σ2 := (28, [some (.ref 37), some (.int x3), some (.int x4), some (.int x5), none], [], M2)) rfl (fun _ => ?_) (fun _ => ?_)
      · exact hj11 _
      · refine pm_irun 2 (σ' := (31, [some (.ref 37), some (.int x3), some (.int x4), some (.int x5), none], [.int (59 : Int32), .int x5], M2)) rfl ?_
        refine pm_iite (σ1 := (38, [some (.ref 37), some (.int x3), some (.int x4), some (.int x5), none], [], M2)) (σ2 := (34, [some (.ref 37), some (.int x3), some (.int x4), some (.int x5), none], [], M2)) rfl (fun _ => ?_) (fun _ => ?_)
        · refine pm_irun 2 (σ' := (41, [some (.ref 37), some (.int x3), some (.int x4), some (.int x5), some (.int (0 : Int32))], [], M2)) rfl ?_
          refine pm_irun 1 (σ' := (98, [some (.ref 37), some (.int x3), some (.int x4), some (.int x5), some (.int (0 : Int32))], [], M2)) rfl ?_
          refine pm_iwk (al' := [some (.ref 37), some (.int x3), some (.int x4), none, some (.int (0 : Int32))]) (pm_wkS (pm_wkS (pm_wkS (pm_wkN (pm_wkS pm_wk0))))) ?_
          exact hj6 _ _ _
        · refine pm_irun 3 (σ' := (41, [some (.ref 37), some (.int x3), some (.int x4), some (.int x5), some (.int (1 : Int32))], [], M2)) rfl ?_
          refine pm_irun 1 (σ' := (98, [some (.ref 37), some (.int x3), some (.int x4), some (.int x5), some (.int (1 : Int32))], [], M2)) rfl ?_
          refine pm_iwk (al' := [some (.ref 37), some (.int x3), some (.int x4), none, some (.int (1 : Int32))]) (pm_wkS (pm_wkS (pm_wkS (pm_wkN (pm_wkS pm_wk0))))) ?_
          exact hj6 _ _ _
def sTape_byteAt (a1 : Int32) (M : pm_M) : Option (Int32 × pm_M) := if a1 < 0 then (some ((-1 : Int32), M)) else (if (M.1 37 0) ≤ a1 then (some ((-1 : Int32), M)) else (if pm_in a1 60 then (some ((M.1 38 a1.toNatClampNeg), M)) else none))
abbrev I_Tape_byteAt (sh : Option (Int32 × pm_M)) (σ : pm_St) : Prop := pm_Im none (pm_Ev 0) pm_T32 (some .int) pm_rI sh σ
set_option maxHeartbeats 4000000 in
set_option maxRecDepth 100000 in
theorem sTape_byteAt_ok (a1 : Int32) (M : pm_M) : ∀ r, sTape_byteAt a1 M = some r → pm_Ev 1 32 [.ref 37, .int a1] M (pm_rI r).1 (pm_rI r).2 := by
  refine pm_meth (al := [some (.ref 37), some (.int a1)]) rfl rfl rfl rfl rfl ?_
  unfold sTape_byteAt
  show I_Tape_byteAt _ (0, [some (.ref 37), some (.int a1)], [], M)
  refine pm_irun 1 (σ' := (1, [some (.ref 37), some (.int a1)], [.int a1], M)) rfl ?_
  refine pm_iite (σ1 := (21, [some (.ref 37), some (.int a1)], [], M)) (σ2 := (4, [some (.ref 37), some (.int a1)], [], M)) rfl (fun _ => ?_) (fun _ => ?_)
  · refine pm_irun 1 (σ' := (22, [some (.ref 37), some (.int a1)], [.int (-1 : Int32)], M)) rfl ?_
    exact pm_irI rfl rfl
  · refine pm_irun 3 (σ' := (9, [some (.ref 37), some (.int a1)], [.int (M.1 37 0), .int a1], M)) rfl ?_
    refine pm_iite (σ1 := (21, [some (.ref 37), some (.int a1)], [], M)) (σ2 := (12, [some (.ref 37), some (.int a1)], [], M)) rfl (fun _ => ?_) (fun _ => ?_)
    · refine pm_irun 1 (σ' := (22, [some (.ref 37), some (.int a1)], [.int (-1 : Int32)], M)) rfl ?_
      exact pm_irI rfl rfl
    · refine pm_irun 3 (σ' := (17, [some (.ref 37), some (.int a1)], [.int a1, .ref 38], M)) rfl ?_
      refine pm_igd (σ1 := (18, [some (.ref 37), some (.int a1)], [.int (M.1 38 a1.toNatClampNeg)], M)) rfl (fun _ => ?_)
      refine pm_irun 1 (σ' := (22, [some (.ref 37), some (.int a1)], [.int (M.1 38 a1.toNatClampNeg)], M)) rfl ?_
      exact pm_irI rfl rfl
def sTape_digitAt (a1 : Int32) (M : pm_M) : Option (Int32 × pm_M) := pm_bd (sTape_byteAt a1 M) fun v2 M1 => some ((v2 - (48 : Int32)), M1)
abbrev I_Tape_digitAt (sh : Option (Int32 × pm_M)) (σ : pm_St) : Prop := pm_Im none (pm_Ev 1) pm_T33 (some .int) pm_rI sh σ
set_option maxHeartbeats 4000000 in
set_option maxRecDepth 100000 in
theorem sTape_digitAt_ok (a1 : Int32) (M : pm_M) : ∀ r, sTape_digitAt a1 M = some r → pm_Ev 2 33 [.ref 37, .int a1] M (pm_rI r).1 (pm_rI r).2 := by
  refine pm_meth (al := [some (.ref 37), some (.int a1)]) rfl rfl rfl rfl rfl ?_
  unfold sTape_digitAt
  show I_Tape_digitAt _ (0, [some (.ref 37), some (.int a1)], [], M)
  refine pm_irun 2 (σ' := (2, [some (.ref 37), some (.int a1)], [.int a1, .ref 37], M)) rfl ?_
  refine pm_icI (as := [.ref 37, .int a1]) (rest := []) rfl rfl rfl rfl (Nat.le_of_ble_eq_true rfl) rfl (fun r h => pm_Ev_mono (Nat.le_of_ble_eq_true rfl) (sTape_byteAt_ok a1 M r h)) (fun v2 M1 => ?_)
  show pm_Im _ _ _ _ _ _ (5, [some (.ref 37), some (.int a1)], [.int v2], M1)
  refine pm_irun 2 (σ' := (8, [some (.ref 37), some (.int a1)], [.int (v2 - (48 : Int32))], M1)) rfl ?_
  exact pm_irI rfl rfl
def sC_obey (a1 : Int32) (M : pm_M) : Option (Int32 × pm_M) := pm_bd (sTape_digitAt (a1 + (1 : Int32)) M) fun v2 M1 => pm_bd (sTape_digitAt (a1 + (2 : Int32)) M1) fun v4 M3 => pm_bd (sTape_digitAt (a1 + (3 : Int32)) M3) fun v6 M5 => pm_bd (sTape_digitAt (a1 + (4 : Int32)) M5) fun v8 M7 => pm_bd (sTape_byteAt a1 M7) fun v10 M9 => if v10 = Int32.ofNat 104 then (pm_bd (sC_home v2 v4 M9) fun v12 M11 => if v12 < (-1 : Int32) then (some ((0 : Int32), M11)) else (some ((1 : Int32), M11))) else if v10 = Int32.ofNat 114 then (pm_bd (sC_route v2 v4 v6 v8 M9) fun v14 M13 => if v14 < 0 then (some ((0 : Int32), M13)) else (some ((1 : Int32), M13))) else if v10 = Int32.ofNat 115 then (pm_bd (sC_station v2 v4 v6 M9) fun v16 M15 => if v16 < 0 then (some ((0 : Int32), M15)) else (some ((1 : Int32), M15))) else (pm_bd (sC_parts v2 v4 M9) fun v18 M17 => if v18 < 0 then (some ((0 : Int32), M17)) else (some ((1 : Int32), M17)))
abbrev I_C_obey (sh : Option (Int32 × pm_M)) (σ : pm_St) : Prop := pm_Im none (pm_Ev 5) pm_T104 (some .boolean) pm_rI sh σ
set_option maxHeartbeats 4000000 in
set_option maxRecDepth 100000 in
theorem sC_obey_ok (a1 : Int32) (M : pm_M) : ∀ r, sC_obey a1 M = some r → pm_Ev 6 104 [.ref 0, .int a1] M (pm_rI r).1 (pm_rI r).2 := by
  refine pm_meth (al := [some (.ref 0), some (.int a1), none, none, none, none]) rfl rfl rfl rfl rfl ?_
  unfold sC_obey
  show I_C_obey _ (0, [some (.ref 0), some (.int a1), none, none, none, none], [], M)
  refine pm_irun 5 (σ' := (7, [some (.ref 0), some (.int a1), none, none, none, none], [.int (a1 + (1 : Int32)), .ref 37], M)) rfl ?_
  refine pm_icI (as := [.ref 37, .int (a1 + (1 : Int32))]) (rest := []) rfl rfl rfl rfl (Nat.le_of_ble_eq_true rfl) rfl (fun r h => pm_Ev_mono (Nat.le_of_ble_eq_true rfl) (sTape_digitAt_ok (a1 + (1 : Int32)) M r h)) (fun v2 M1 => ?_)
  show pm_Im _ _ _ _ _ _ (10, [some (.ref 0), some (.int a1), none, none, none, none], [.int v2], M1)
  refine pm_irun 1 (σ' := (11, [some (.ref 0), some (.int a1), some (.int v2), none, none, none], [], M1)) rfl ?_
  refine pm_irun 5 (σ' := (18, [some (.ref 0), some (.int a1), some (.int v2), none, none, none], [.int (a1 + (2 : Int32)), .ref 37], M1)) rfl ?_
  refine pm_icI (as := [.ref 37, .int (a1 + (2 : Int32))]) (rest := []) rfl rfl rfl rfl (Nat.le_of_ble_eq_true rfl) rfl (fun r h => pm_Ev_mono (Nat.le_of_ble_eq_true rfl) (sTape_digitAt_ok (a1 + (2 : Int32)) M1 r h)) (fun v4 M3 => ?_)
  show pm_Im _ _ _ _ _ _ (21, [some (.ref 0), some (.int a1), some (.int v2), none, none, none], [.int v4], M3)
  refine pm_irun 1 (σ' := (22, [some (.ref 0), some (.int a1), some (.int v2), some (.int v4), none, none], [], M3)) rfl ?_
  refine pm_irun 5 (σ' := (29, [some (.ref 0), some (.int a1), some (.int v2), some (.int v4), none, none], [.int (a1 + (3 : Int32)), .ref 37], M3)) rfl ?_
  refine pm_icI (as := [.ref 37, .int (a1 + (3 : Int32))]) (rest := []) rfl rfl rfl rfl (Nat.le_of_ble_eq_true rfl) rfl (fun r h => pm_Ev_mono (Nat.le_of_ble_eq_true rfl) (sTape_digitAt_ok (a1 + (3 : Int32)) M3 r h)) (fun v6 M5 => ?_)
  show pm_Im _ _ _ _ _ _ (32, [some (.ref 0), some (.int a1), some (.int v2), some (.int v4), none, none], [.int v6], M5)
  refine pm_irun 1 (σ' := (34, [some (.ref 0), some (.int a1), some (.int v2), some (.int v4), some (.int v6), none], [], M5)) rfl ?_
  refine pm_irun 5 (σ' := (41, [some (.ref 0), some (.int a1), some (.int v2), some (.int v4), some (.int v6), none], [.int (a1 + (4 : Int32)), .ref 37], M5)) rfl ?_
  refine pm_icI (as := [.ref 37, .int (a1 + (4 : Int32))]) (rest := []) rfl rfl rfl rfl (Nat.le_of_ble_eq_true rfl) rfl (fun r h => pm_Ev_mono (Nat.le_of_ble_eq_true rfl) (sTape_digitAt_ok (a1 + (4 : Int32)) M5 r h)) (fun v8 M7 => ?_)
  show pm_Im _ _ _ _ _ _ (44, [some (.ref 0), some (.int a1), some (.int v2), some (.int v4), some (.int v6), none], [.int v8], M7)
  refine pm_irun 1 (σ' := (46, [some (.ref 0), some (.int a1), some (.int v2), some (.int v4), some (.int v6), some (.int v8)], [], M7)) rfl ?_
  refine pm_irun 3 (σ' := (51, [some (.ref 0), some (.int a1), some (.int v2), some (.int v4), some (.int v6), some (.int v8)], [.int a1, .ref 37], M7)) rfl ?_
  refine pm_icI (as := [.ref 37, .int a1]) (rest := []) rfl rfl rfl rfl (Nat.le_of_ble_eq_true rfl) rfl (fun r h => pm_Ev_mono (Nat.le_of_ble_eq_true rfl) (sTape_byteAt_ok a1 M7 r h)) (fun v10 M9 => ?_)
  show pm_Im _ _ _ _ _ _ (54, [some (.ref 0), some (.int a1), some (.int v2), some (.int v4), some (.int v6), some (.int v8)], [.int v10], M9)
  refine pm_irun 1 (σ' := (pm_sw v10 140 [104, 124, 114, 105, 115, 88], [some (.ref 0), some (.int a1), some (.int v2), some (.int v4), some (.int v6), some (.int v8)], [], M9)) rfl ?_
  refine pm_isw (fun _ => ?_) (fun _ => ?_)
  · show pm_Im _ _ _ _ _ _ (124, [some (.ref 0), some (.int a1), some (.int v2), some (.int v4), some (.int v6), some (.int v8)], [], M9)
    refine pm_irun 3 (σ' := (127, [some (.ref 0), some (.int a1), some (.int v2), some (.int v4), some (.int v6), some (.int v8)], [.int v4, .int v2, .ref 0], M9)) rfl ?_
    refine pm_icI (as := [.ref 0, .int v2, .int v4]) (rest := []) rfl rfl rfl rfl (Nat.le_of_ble_eq_true rfl) rfl (fun r h => pm_Ev_mono (Nat.le_of_ble_eq_true rfl) (sC_home_ok v2 v4 M9 r h)) (fun v12 M11 => ?_)
    show pm_Im _ _ _ _ _ _ (130, [some (.ref 0), some (.int a1), some (.int v2), some (.int v4), some (.int v6), some (.int v8)], [.int v12], M11)
    refine pm_irun 1 (σ' := (131, [some (.ref 0), some (.int a1), some (.int v2), some (.int v4), some (.int v6), some (.int v8)], [.int (-1 : Int32), .int v12], M11)) rfl ?_
    refine pm_iite (σ1 := (138, [some (.ref 0), some (.int a1), some (.int v2), some (.int v4), some (.int v6), some (.int v8)], [], M11)) (σ2 := (134, [some (.ref 0), some (.int a1), some (.int v2), some (.int v4), some (.int v6), some (.int v8)], [], M11)) rfl (fun _ => ?_) (fun _ => ?_)
    · refine pm_irun 1 (σ' := (139, [some (.ref 0), some (.int a1), some (.int v2), some (.int v4), some (.int v6), some (.int v8)], [.int (0 : Int32)], M11)) rfl ?_
      exact pm_irZ (Or.inl rfl) rfl rfl
    · refine pm_irun 2 (σ' := (139, [some (.ref 0), some (.int a1), some (.int v2), some (.int v4), some (.int v6), some (.int v8)], [.int (1 : Int32)], M11)) rfl ?_
      exact pm_irZ (Or.inr rfl) rfl rfl
  refine pm_isw (fun _ => ?_) (fun _ => ?_)
  · show pm_Im _ _ _ _ _ _ (105, [some (.ref 0), some (.int a1), some (.int v2), some (.int v4), some (.int v6), some (.int v8)], [], M9)
    refine pm_irun 5 (σ' := (112, [some (.ref 0), some (.int a1), some (.int v2), some (.int v4), some (.int v6), some (.int v8)], [.int v8, .int v6, .int v4, .int v2, .ref 0], M9)) rfl ?_
    refine pm_icI (as := [.ref 0, .int v2, .int v4, .int v6, .int v8]) (rest := []) rfl rfl rfl rfl (Nat.le_of_ble_eq_true rfl) rfl (fun r h => pm_Ev_mono (Nat.le_of_ble_eq_true rfl) (sC_route_ok v2 v4 v6 v8 M9 r h)) (fun v14 M13 => ?_)
    show pm_Im _ _ _ _ _ _ (115, [some (.ref 0), some (.int a1), some (.int v2), some (.int v4), some (.int v6), some (.int v8)], [.int v14], M13)
    refine pm_iite (σ1 := (122, [some (.ref 0), some (.int a1), some (.int v2), some (.int v4), some (.int v6), some (.int v8)], [], M13)) (σ2 := (118, [some (.ref 0), some (.int a1), some (.int v2), some (.int v4), some (.int v6), some (.int v8)], [], M13)) rfl (fun _ => ?_) (fun _ => ?_)
    · refine pm_irun 1 (σ' := (123, [some (.ref 0), some (.int a1), some (.int v2), some (.int v4), some (.int v6), some (.int v8)], [.int (0 : Int32)], M13)) rfl ?_
      exact pm_irZ (Or.inl rfl) rfl rfl
    · refine pm_irun 2 (σ' := (123, [some (.ref 0), some (.int a1), some (.int v2), some (.int v4), some (.int v6), some (.int v8)], [.int (1 : Int32)], M13)) rfl ?_
      exact pm_irZ (Or.inr rfl) rfl rfl
  refine pm_isw (fun _ => ?_) (fun _ => ?_)
  · show pm_Im _ _ _ _ _ _ (88, [some (.ref 0), some (.int a1), some (.int v2), some (.int v4), some (.int v6), some (.int v8)], [], M9)
    refine pm_irun 4 (σ' := (93, [some (.ref 0), some (.int a1), some (.int v2), some (.int v4), some (.int v6), some (.int v8)], [.int v6, .int v4, .int v2, .ref 0], M9)) rfl ?_
    refine pm_icI (as := [.ref 0, .int v2, .int v4, .int v6]) (rest := []) rfl rfl rfl rfl (Nat.le_of_ble_eq_true rfl) rfl (fun r h => pm_Ev_mono (Nat.le_of_ble_eq_true rfl) (sC_station_ok v2 v4 v6 M9 r h)) (fun v16 M15 => ?_)
    show pm_Im _ _ _ _ _ _ (96, [some (.ref 0), some (.int a1), some (.int v2), some (.int v4), some (.int v6), some (.int v8)], [.int v16], M15)
    refine pm_iite (σ1 := (103, [some (.ref 0), some (.int a1), some (.int v2), some (.int v4), some (.int v6), some (.int v8)], [], M15)) (σ2 := (99, [some (.ref 0), some (.int a1), some (.int v2), some (.int v4), some (.int v6), some (.int v8)], [], M15)) rfl (fun _ => ?_) (fun _ => ?_)
    · refine pm_irun 1 (σ' := (104, [some (.ref 0), some (.int a1), some (.int v2), some (.int v4), some (.int v6), some (.int v8)], [.int (0 : Int32)], M15)) rfl ?_
      exact pm_irZ (Or.inl rfl) rfl rfl
    · refine pm_irun 2 (σ' := (104, [some (.ref 0), some (.int a1), some (.int v2), some (.int v4), some (.int v6), some (.int v8)], [.int (1 : Int32)], M15)) rfl ?_
      exact pm_irZ (Or.inr rfl) rfl rfl
  show pm_Im _ _ _ _ _ _ (140, [some (.ref 0), some (.int a1), some (.int v2), some (.int v4), some (.int v6), some (.int v8)], [], M9)
  refine pm_irun 3 (σ' := (143, [some (.ref 0), some (.int a1), some (.int v2), some (.int v4), some (.int v6), some (.int v8)], [.int v4, .int v2, .ref 0], M9)) rfl ?_
  refine pm_icI (as := [.ref 0, .int v2, .int v4]) (rest := []) rfl rfl rfl rfl (Nat.le_of_ble_eq_true rfl) rfl (fun r h => pm_Ev_mono (Nat.le_of_ble_eq_true rfl) (sC_parts_ok v2 v4 M9 r h)) (fun v18 M17 => ?_)
  show pm_Im _ _ _ _ _ _ (146, [some (.ref 0), some (.int a1), some (.int v2), some (.int v4), some (.int v6), some (.int v8)], [.int v18], M17)
  refine pm_iite (σ1 := (153, [some (.ref 0), some (.int a1), some (.int v2), some (.int v4), some (.int v6), some (.int v8)], [], M17)) (σ2 := (149, [some (.ref 0), some (.int a1), some (.int v2), some (.int v4), some (.int v6), some (.int v8)], [], M17)) rfl (fun _ => ?_) (fun _ => ?_)
  · refine pm_irun 1 (σ' := (154, [some (.ref 0), some (.int a1), some (.int v2), some (.int v4), some (.int v6), some (.int v8)], [.int (0 : Int32)], M17)) rfl ?_
    exact pm_irZ (Or.inl rfl) rfl rfl
  · refine pm_irun 2 (σ' := (154, [some (.ref 0), some (.int a1), some (.int v2), some (.int v4), some (.int v6), some (.int v8)], [.int (1 : Int32)], M17)) rfl ?_
    exact pm_irZ (Or.inr rfl) rfl rfl
def sC_text  (M : pm_M) : Option (Int32 × pm_M) := pm_bd (sTape_faultPlace M) fun v2 M1 => if v2 = (-1 : Int32) then (pm_loop (fun _ _ _ _ => none) (fun (g3 : Int32 → Int32 → Int32 → pm_M → Option (Int32 × pm_M)) x5 x6 x7 M4 => pm_jn (fun (M9 : pm_M) => pm_lt (pm_sI M9 37 0 (0 : Int32)) fun M10 => some (x5, M10)) fun (j8 : pm_M → Option (Int32 × pm_M)) => if (60 : Int32) ≤ x7 then (j8 M4) else (if (M4.1 37 0) ≤ x6 then (j8 M4) else (pm_bd (sC_obey x6 M4) fun v12 M11 => pm_jn (fun (x15 : Int32) (M14 : pm_M) => pm_bd (sTape_byteAt x6 M14) fun v17 M16 => pm_bd (sTape_clauseSize v17 M16) fun v19 M18 => pm_lt ((x6 + (v19 + (1 : Int32)))) fun x20 => pm_lt ((x7 + (1 : Int32))) fun x21 => g3 x15 x20 x21 M18) fun (j13 : Int32 → pm_M → Option (Int32 × pm_M)) => if v12 = 0 then (j13 x5 M11) else (pm_lt ((x5 + (1 : Int32))) fun x22 => j13 x22 M11)))) 1000000 (0 : Int32) (0 : Int32) (0 : Int32) M1) else (pm_lt (pm_sI M1 37 0 (0 : Int32)) fun M23 => some (((-100 : Int32) - v2), M23))
abbrev I_C_text (sh : Option (Int32 × pm_M)) (σ : pm_St) : Prop := pm_Im none (pm_Ev 6) pm_T65 (some .int) pm_rI sh σ
set_option maxHeartbeats 4000000 in
set_option maxRecDepth 100000 in
theorem sC_text_ok  (M : pm_M) : ∀ r, sC_text  M = some r → pm_Ev 7 65 [.ref 0] M (pm_rI r).1 (pm_rI r).2 := by
  refine pm_meth (al := [some (.ref 0), none, none, none, none]) rfl rfl rfl rfl rfl ?_
  unfold sC_text
  show I_C_text _ (0, [some (.ref 0), none, none, none, none], [], M)
  refine pm_irun 2 (σ' := (4, [some (.ref 0), none, none, none, none], [.ref 37], M)) rfl ?_
  refine pm_icI (as := [.ref 37]) (rest := []) rfl rfl rfl rfl (Nat.le_of_ble_eq_true rfl) rfl (fun r h => pm_Ev_mono (Nat.le_of_ble_eq_true rfl) (sTape_faultPlace_ok M r h)) (fun v2 M1 => ?_)
  show pm_Im _ _ _ _ _ _ (7, [some (.ref 0), none, none, none, none], [.int v2], M1)
  refine pm_irun 1 (σ' := (8, [some (.ref 0), some (.int v2), none, none, none], [], M1)) rfl ?_
  refine pm_irun 2 (σ' := (10, [some (.ref 0), some (.int v2), none, none, none], [.int (-1 : Int32), .int v2], M1)) rfl ?_
  refine pm_iite (σ1 := (26, [some (.ref 0), some (.int v2), none, none, none], [], M1)) (σ2 := (13, [some (.ref 0), some (.int v2), none, none, none], [], M1)) rfl (fun _ => ?_) (fun _ => ?_)
  · refine pm_irun 2 (σ' := (28, [some (.ref 0), some (.int v2), some (.int (0 : Int32)), none, none], [], M1)) rfl ?_
    refine pm_irun 2 (σ' := (30, [some (.ref 0), some (.int v2), some (.int (0 : Int32)), some (.int (0 : Int32)), none], [], M1)) rfl ?_
    refine pm_irun 2 (σ' := (33, [some (.ref 0), some (.int v2), some (.int (0 : Int32)), some (.int (0 : Int32)), some (.int (0 : Int32))], [], M1)) rfl ?_
    refine pm_iwk (al' := [some (.ref 0), none, some (.int (0 : Int32)), some (.int (0 : Int32)), some (.int (0 : Int32))]) (pm_wkS (pm_wkN (pm_wkS (pm_wkS (pm_wkS pm_wk0))))) ?_
    refine pm_iloop (fun (g : Int32 → Int32 → Int32 → pm_M → Option (Int32 × pm_M)) => ∀ (x5 : Int32) (x6 : Int32) (x7 : Int32) (M4 : pm_M), I_C_text (g x5 x6 x7 M4) (33, [some (.ref 0), none, some (.int x5), some (.int x6), some (.int x7)], [], M4)) (fun _ _ _ _ => pm_inone) (fun g3 hg3 x5 x6 x7 M4 => ?_) 1000000 _ _ _ _
    show I_C_text _ (33, [some (.ref 0), none, some (.int x5), some (.int x6), some (.int x7)], [], M4)
    refine pm_irun 2 (σ' := (37, [some (.ref 0), none, some (.int x5), some (.int x6), some (.int x7)], [.int (60 : Int32), .int x7], M4)) rfl ?_
    refine pm_ijn (fun (g : pm_M → Option (Int32 × pm_M)) => ∀ (M9 : pm_M), I_C_text (g M9) (84, [some (.ref 0), none, some (.int x5), none, none], [], M9)) (fun (M9 : pm_M) => ?_) (fun j8 hj8 => ?_)
    · show I_C_text _ (84, [some (.ref 0), none, some (.int x5), none, none], [], M9)
      refine pm_irun 3 (σ' := (89, [some (.ref 0), none, some (.int x5), none, none], [.int (0 : Int32), .ref 37], M9)) rfl ?_
      refine pm_irun 1 (σ' := (92, [some (.ref 0), none, some (.int x5), none, none], [], (pm_sI M9 37 0 (0 : Int32)))) rfl ?_
      refine pm_ilt (fun y => (92, [some (.ref 0), none, some (.int x5), none, none], [], y)) (fun M10 => ?_)
      refine pm_irun 1 (σ' := (93, [some (.ref 0), none, some (.int x5), none, none], [.int x5], M10)) rfl ?_
      exact pm_irI rfl rfl
    refine pm_iite (σ1 := (84, [some (.ref 0), none, some (.int x5), some (.int x6), some (.int x7)], [], M4)) (σ2 := (40, [some (.ref 0), none, some (.int x5), some (.int x6), some (.int x7)], [], M4)) rfl (fun _ => ?_) (fun _ => ?_)
    · refine pm_iwk (al' := [some (.ref 0), none, some (.int x5), none, none]) (pm_wkS (pm_wkS (pm_wkS (pm_wkN (pm_wkN pm_wk0))))) ?_
      exact hj8 _
    · refine pm_irun 4 (σ' := (48, [some (.ref 0), none, some (.int x5), some (.int x6), some (.int x7)], [.int (M4.1 37 0), .int x6], M4)) rfl ?_
      refine pm_iite (σ1 := (84, [some (.ref 0), none, some (.int x5), some (.int x6), some (.int x7)], [], M4)) (σ2 := (51, [some (.ref 0), none, some (.int x5), some (.int x6), some (.int x7)], [], M4)) rfl (fun _ => ?_) (fun _ => ?_)
      · refine pm_iwk (al' := [some (.ref 0), none, some (.int x5), none, none]) (pm_wkS (pm_wkS (pm_wkS (pm_wkN (pm_wkN pm_wk0))))) ?_
        exact hj8 _
      · refine pm_irun 2 (σ' := (53, [some (.ref 0), none, some (.int x5), some (.int x6), some (.int x7)], [.int x6, .ref 0], M4)) rfl ?_
        refine pm_icI (as := [.ref 0, .int x6]) (rest := []) rfl rfl rfl rfl (Nat.le_of_ble_eq_true rfl) rfl (fun r h => pm_Ev_mono (Nat.le_of_ble_eq_true rfl) (sC_obey_ok x6 M4 r h)) (fun v12 M11 => ?_)
        show pm_Im _ _ _ _ _ _ (56, [some (.ref 0), none, some (.int x5), some (.int x6), some (.int x7)], [.int v12], M11)
        refine pm_ijn (fun (g : Int32 → pm_M → Option (Int32 × pm_M)) => ∀ (x15 : Int32) (M14 : pm_M), I_C_text (g x15 M14) (62, [some (.ref 0), none, some (.int x15), some (.int x6), some (.int x7)], [], M14)) (fun (x15 : Int32) (M14 : pm_M) => ?_) (fun j13 hj13 => ?_)
        · show I_C_text _ (62, [some (.ref 0), none, some (.int x15), some (.int x6), some (.int x7)], [], M14)
          refine pm_irun 4 (σ' := (68, [some (.ref 0), none, some (.int x15), some (.int x6), some (.int x7)], [.int x6, .ref 37, .int x6], M14)) rfl ?_
          refine pm_icI (as := [.ref 37, .int x6]) (rest := [.int x6]) rfl rfl rfl rfl (Nat.le_of_ble_eq_true rfl) rfl (fun r h => pm_Ev_mono (Nat.le_of_ble_eq_true rfl) (sTape_byteAt_ok x6 M14 r h)) (fun v17 M16 => ?_)
          show pm_Im _ _ _ _ _ _ (71, [some (.ref 0), none, some (.int x15), some (.int x6), some (.int x7)], [.int v17, .int x6], M16)
          refine pm_icI (as := [.int v17]) (rest := [.int x6]) rfl rfl rfl rfl (Nat.le_of_ble_eq_true rfl) rfl (fun r h => pm_Ev_mono (Nat.le_of_ble_eq_true rfl) (sTape_clauseSize_ok v17 M16 r h)) (fun v19 M18 => ?_)
          show pm_Im _ _ _ _ _ _ (74, [some (.ref 0), none, some (.int x15), some (.int x6), some (.int x7)], [.int v19, .int x6], M18)
          refine pm_irun 4 (σ' := (78, [some (.ref 0), none, some (.int x15), some (.int (x6 + (v19 + (1 : Int32)))), some (.int x7)], [], M18)) rfl ?_
          refine pm_ilt (fun y => (78, [some (.ref 0), none, some (.int x15), some (.int y), some (.int x7)], [], M18)) (fun x20 => ?_)
          refine pm_irun 1 (σ' := (81, [some (.ref 0), none, some (.int x15), some (.int x20), some (.int (x7 + (1 : Int32)))], [], M18)) rfl ?_
          refine pm_ilt (fun y => (81, [some (.ref 0), none, some (.int x15), some (.int x20), some (.int y)], [], M18)) (fun x21 => ?_)
          refine pm_irun 1 (σ' := (33, [some (.ref 0), none, some (.int x15), some (.int x20), some (.int x21)], [], M18)) rfl ?_
          exact hg3 _ _ _ _
        refine pm_iite (σ1 := (62, [some (.ref 0), none, some (.int x5), some (.int x6), some (.int x7)], [], M11)) (σ2 := (59, [some (.ref 0), none, some (.int x5), some (.int x6), some (.int x7)], [], M11)) rfl (fun _ => ?_) (fun _ => ?_)
        · exact hj13 _ _
        · refine pm_irun 1 (σ' := (62, [some (.ref 0), none, some (.int (x5 + (1 : Int32))), some (.int x6), some (.int x7)], [], M11)) rfl ?_
          refine pm_ilt (fun y => (62, [some (.ref 0), none, some (.int y), some (.int x6), some (.int x7)], [], M11)) (fun x22 => ?_)
          exact hj13 _ _
  · refine pm_irun 3 (σ' := (18, [some (.ref 0), some (.int v2), none, none, none], [.int (0 : Int32), .ref 37], M1)) rfl ?_
    refine pm_irun 1 (σ' := (21, [some (.ref 0), some (.int v2), none, none, none], [], (pm_sI M1 37 0 (0 : Int32)))) rfl ?_
    refine pm_ilt (fun y => (21, [some (.ref 0), some (.int v2), none, none, none], [], y)) (fun M23 => ?_)
    refine pm_irun 3 (σ' := (25, [some (.ref 0), some (.int v2), none, none, none], [.int ((-100 : Int32) - v2)], M23)) rfl ?_
    exact pm_irI rfl rfl
def sR_clause  (M : pm_M) : Option (Int32 × pm_M) := pm_jn (fun (q3 : Int32) (M2 : pm_M) => pm_jn (fun (q6 : Int32) (M5 : pm_M) => if ¬ q6 = 0 then (if pm_in (M5.1 49 11) 24 then (pm_lt (pm_sI M5 57 (M5.1 49 11).toNatClampNeg q3) fun M7 => pm_lt (pm_sI M7 49 10 (((M7.1 49 10) + (1 : Int32)))) fun M8 => pm_loop (fun _ _ => none) (fun (g9 : Int32 → pm_M → Option (Int32 × pm_M)) x11 M10 => if q6 ≤ x11 then (pm_lt (pm_sI M10 49 11 (((M10.1 49 11) + (1 : Int32)))) fun M12 => some ((1 : Int32), M12)) else (if (M10.1 49 9) ≤ (M10.1 49 10) then (some ((0 : Int32), M10)) else (if pm_in (M10.1 49 10) 60 then (pm_bd (sR_in (M10.1 56 (M10.1 49 10).toNatClampNeg).toInt64 (48 : Int64) (57 : Int64) M10) fun v14 M13 => if ¬ v14 = 0 then (if pm_in (M13.1 49 10) 60 then (if pm_in (((4 : Int32) * (M13.1 49 11)) + x11) 96 then (pm_lt (pm_sI M13 58 (((4 : Int32) * (M13.1 49 11)) + x11).toNatClampNeg (((M13.1 56 (M13.1 49 10).toNatClampNeg) - (48 : Int32)))) fun M15 => pm_lt (pm_sI M15 49 10 (((M15.1 49 10) + (1 : Int32)))) fun M16 => pm_lt ((x11 + (1 : Int32))) fun x17 => g9 x17 M16) else none) else none) else (some ((0 : Int32), M13))) else none))) 1000000 (0 : Int32) M8) else none) else (some ((0 : Int32), M5))) fun (j4 : Int32 → pm_M → Option (Int32 × pm_M)) => if ¬ q3 = (115 : Int32) then (if ¬ q3 = (114 : Int32) then (if q3 = (104 : Int32) then (j4 (2 : Int32) M2) else (if ¬ q3 = (110 : Int32) then (j4 (0 : Int32) M2) else (j4 (2 : Int32) M2))) else (j4 (4 : Int32) M2)) else (j4 (3 : Int32) M2)) fun (j1 : Int32 → pm_M → Option (Int32 × pm_M)) => if (M.1 49 9) ≤ (M.1 49 10) then (j1 (-1 : Int32) M) else (if pm_in (M.1 49 10) 60 then (j1 ((M.1 56 (M.1 49 10).toNatClampNeg)) M) else none)
abbrev I_R_clause (sh : Option (Int32 × pm_M)) (σ : pm_St) : Prop := pm_Im none (pm_Ev 1) pm_T133 (some .boolean) pm_rI sh σ
set_option maxHeartbeats 4000000 in
set_option maxRecDepth 100000 in
theorem sR_clause_ok  (M : pm_M) : ∀ r, sR_clause  M = some r → pm_Ev 2 133 [.ref 49] M (pm_rI r).1 (pm_rI r).2 := by
  refine pm_meth (al := [some (.ref 49), none, none, none]) rfl rfl rfl rfl rfl ?_
  unfold sR_clause
  show I_R_clause _ (0, [some (.ref 49), none, none, none], [], M)
  refine pm_irun 4 (σ' := (8, [some (.ref 49), none, none, none], [.int (M.1 49 9), .int (M.1 49 10)], M)) rfl ?_
  refine pm_ijn (fun (g : Int32 → pm_M → Option (Int32 × pm_M)) => ∀ (q3 : Int32) (M2 : pm_M), I_R_clause (g q3 M2) (24, [some (.ref 49), none, none, none], [.int q3], M2)) (fun (q3 : Int32) (M2 : pm_M) => ?_) (fun j1 hj1 => ?_)
  · show I_R_clause _ (24, [some (.ref 49), none, none, none], [.int q3], M2)
    refine pm_irun 1 (σ' := (25, [some (.ref 49), some (.int q3), none, none], [], M2)) rfl ?_
    refine pm_irun 2 (σ' := (28, [some (.ref 49), some (.int q3), none, none], [.int (115 : Int32), .int q3], M2)) rfl ?_
    refine pm_ijn (fun (g : Int32 → pm_M → Option (Int32 × pm_M)) => ∀ (q6 : Int32) (M5 : pm_M), I_R_clause (g q6 M5) (62, [some (.ref 49), some (.int q3), none, none], [.int q6], M5)) (fun (q6 : Int32) (M5 : pm_M) => ?_) (fun j4 hj4 => ?_)
    · show I_R_clause _ (62, [some (.ref 49), some (.int q3), none, none], [.int q6], M5)
      refine pm_irun 1 (σ' := (63, [some (.ref 49), some (.int q3), some (.int q6), none], [], M5)) rfl ?_
      refine pm_irun 1 (σ' := (64, [some (.ref 49), some (.int q3), some (.int q6), none], [.int q6], M5)) rfl ?_
      refine pm_iite (σ1 := (69, [some (.ref 49), some (.int q3), some (.int q6), none], [], M5)) (σ2 := (67, [some (.ref 49), some (.int q3), some (.int q6), none], [], M5)) rfl (fun _ => ?_) (fun _ => ?_)
      · refine pm_irun 5 (σ' := (78, [some (.ref 49), some (.int q3), some (.int q6), none], [.int q3, .int (M5.1 49 11), .ref 57], M5)) rfl ?_
        refine pm_igd (σ1 := (79, [some (.ref 49), some (.int q3), some (.int q6), none], [], (pm_sI M5 57 (M5.1 49 11).toNatClampNeg q3))) rfl (fun _ => ?_)
        refine pm_ilt (fun y => (79, [some (.ref 49), some (.int q3), some (.int q6), none], [], y)) (fun M7 => ?_)
        refine pm_irun 5 (σ' := (86, [some (.ref 49), some (.int q3), some (.int q6), none], [.int ((M7.1 49 10) + (1 : Int32)), .ref 49], M7)) rfl ?_
        refine pm_irun 1 (σ' := (89, [some (.ref 49), some (.int q3), some (.int q6), none], [], (pm_sI M7 49 10 (((M7.1 49 10) + (1 : Int32)))))) rfl ?_
        refine pm_ilt (fun y => (89, [some (.ref 49), some (.int q3), some (.int q6), none], [], y)) (fun M8 => ?_)
        refine pm_irun 2 (σ' := (91, [some (.ref 49), some (.int q3), some (.int q6), some (.int (0 : Int32))], [], M8)) rfl ?_
        refine pm_iwk (al' := [some (.ref 49), none, some (.int q6), some (.int (0 : Int32))]) (pm_wkS (pm_wkN (pm_wkS (pm_wkS pm_wk0)))) ?_
        refine pm_iloop (fun (g : Int32 → pm_M → Option (Int32 × pm_M)) => ∀ (x11 : Int32) (M10 : pm_M), I_R_clause (g x11 M10) (91, [some (.ref 49), none, some (.int q6), some (.int x11)], [], M10)) (fun _ _ => pm_inone) (fun g9 hg9 x11 M10 => ?_) 1000000 _ _
        show I_R_clause _ (91, [some (.ref 49), none, some (.int q6), some (.int x11)], [], M10)
        refine pm_irun 2 (σ' := (93, [some (.ref 49), none, some (.int q6), some (.int x11)], [.int q6, .int x11], M10)) rfl ?_
        refine pm_iite (σ1 := (172, [some (.ref 49), none, some (.int q6), some (.int x11)], [], M10)) (σ2 := (96, [some (.ref 49), none, some (.int q6), some (.int x11)], [], M10)) rfl (fun _ => ?_) (fun _ => ?_)
        · refine pm_irun 5 (σ' := (179, [some (.ref 49), none, some (.int q6), some (.int x11)], [.int ((M10.1 49 11) + (1 : Int32)), .ref 49], M10)) rfl ?_
          refine pm_irun 1 (σ' := (182, [some (.ref 49), none, some (.int q6), some (.int x11)], [], (pm_sI M10 49 11 (((M10.1 49 11) + (1 : Int32)))))) rfl ?_
          refine pm_ilt (fun y => (182, [some (.ref 49), none, some (.int q6), some (.int x11)], [], y)) (fun M12 => ?_)
          refine pm_irun 1 (σ' := (183, [some (.ref 49), none, some (.int q6), some (.int x11)], [.int (1 : Int32)], M12)) rfl ?_
          exact pm_irZ (Or.inr rfl) rfl rfl
        · refine pm_irun 4 (σ' := (104, [some (.ref 49), none, some (.int q6), some (.int x11)], [.int (M10.1 49 9), .int (M10.1 49 10)], M10)) rfl ?_
          refine pm_iite (σ1 := (129, [some (.ref 49), none, some (.int q6), some (.int x11)], [], M10)) (σ2 := (107, [some (.ref 49), none, some (.int q6), some (.int x11)], [], M10)) rfl (fun _ => ?_) (fun _ => ?_)
          · refine pm_irun 1 (σ' := (130, [some (.ref 49), none, some (.int q6), some (.int x11)], [.int (0 : Int32)], M10)) rfl ?_
            exact pm_irZ (Or.inl rfl) rfl rfl
          · refine pm_irun 4 (σ' := (115, [some (.ref 49), none, some (.int q6), some (.int x11)], [.int (M10.1 49 10), .ref 56], M10)) rfl ?_
            refine pm_igd (σ1 := (116, [some (.ref 49), none, some (.int q6), some (.int x11)], [.int (M10.1 56 (M10.1 49 10).toNatClampNeg)], M10)) rfl (fun _ => ?_)
            refine pm_irun 3 (σ' := (123, [some (.ref 49), none, some (.int q6), some (.int x11)], [.long (57 : Int64), .long (48 : Int64), .long (M10.1 56 (M10.1 49 10).toNatClampNeg).toInt64], M10)) rfl ?_
            refine pm_icI (as := [.long (M10.1 56 (M10.1 49 10).toNatClampNeg).toInt64, .long (48 : Int64), .long (57 : Int64)]) (rest := []) rfl rfl rfl rfl (Nat.le_of_ble_eq_true rfl) rfl (fun r h => pm_Ev_mono (Nat.le_of_ble_eq_true rfl) (sR_in_ok (M10.1 56 (M10.1 49 10).toNatClampNeg).toInt64 (48 : Int64) (57 : Int64) M10 r h)) (fun v14 M13 => ?_)
            show pm_Im _ _ _ _ _ _ (126, [some (.ref 49), none, some (.int q6), some (.int x11)], [.int v14], M13)
            refine pm_iite (σ1 := (131, [some (.ref 49), none, some (.int q6), some (.int x11)], [], M13)) (σ2 := (129, [some (.ref 49), none, some (.int q6), some (.int x11)], [], M13)) rfl (fun _ => ?_) (fun _ => ?_)
            · refine pm_irun 8 (σ' := (143, [some (.ref 49), none, some (.int q6), some (.int x11)], [.int (((4 : Int32) * (M13.1 49 11)) + x11), .ref 58], M13)) rfl ?_
              refine pm_irun 4 (σ' := (151, [some (.ref 49), none, some (.int q6), some (.int x11)], [.int (M13.1 49 10), .ref 56, .int (((4 : Int32) * (M13.1 49 11)) + x11), .ref 58], M13)) rfl ?_
              refine pm_igd (σ1 := (152, [some (.ref 49), none, some (.int q6), some (.int x11)], [.int (M13.1 56 (M13.1 49 10).toNatClampNeg), .int (((4 : Int32) * (M13.1 49 11)) + x11), .ref 58], M13)) rfl (fun _ => ?_)
              refine pm_irun 2 (σ' := (155, [some (.ref 49), none, some (.int q6), some (.int x11)], [.int ((M13.1 56 (M13.1 49 10).toNatClampNeg) - (48 : Int32)), .int (((4 : Int32) * (M13.1 49 11)) + x11), .ref 58], M13)) rfl ?_
              refine pm_igd (σ1 := (156, [some (.ref 49), none, some (.int q6), some (.int x11)], [], (pm_sI M13 58 (((4 : Int32) * (M13.1 49 11)) + x11).toNatClampNeg (((M13.1 56 (M13.1 49 10).toNatClampNeg) - (48 : Int32)))))) rfl (fun _ => ?_)
              refine pm_ilt (fun y => (156, [some (.ref 49), none, some (.int q6), some (.int x11)], [], y)) (fun M15 => ?_)
              refine pm_irun 5 (σ' := (163, [some (.ref 49), none, some (.int q6), some (.int x11)], [.int ((M15.1 49 10) + (1 : Int32)), .ref 49], M15)) rfl ?_
              refine pm_irun 1 (σ' := (166, [some (.ref 49), none, some (.int q6), some (.int x11)], [], (pm_sI M15 49 10 (((M15.1 49 10) + (1 : Int32)))))) rfl ?_
              refine pm_ilt (fun y => (166, [some (.ref 49), none, some (.int q6), some (.int x11)], [], y)) (fun M16 => ?_)
              refine pm_irun 1 (σ' := (169, [some (.ref 49), none, some (.int q6), some (.int (x11 + (1 : Int32)))], [], M16)) rfl ?_
              refine pm_ilt (fun y => (169, [some (.ref 49), none, some (.int q6), some (.int y)], [], M16)) (fun x17 => ?_)
              refine pm_irun 1 (σ' := (91, [some (.ref 49), none, some (.int q6), some (.int x17)], [], M16)) rfl ?_
              exact hg9 _ _
            · refine pm_irun 1 (σ' := (130, [some (.ref 49), none, some (.int q6), some (.int x11)], [.int (0 : Int32)], M13)) rfl ?_
              exact pm_irZ (Or.inl rfl) rfl rfl
      · refine pm_irun 1 (σ' := (68, [some (.ref 49), some (.int q3), some (.int q6), none], [.int (0 : Int32)], M5)) rfl ?_
        exact pm_irZ (Or.inl rfl) rfl rfl
    refine pm_iite (σ1 := (35, [some (.ref 49), some (.int q3), none, none], [], M2)) (σ2 := (31, [some (.ref 49), some (.int q3), none, none], [], M2)) rfl (fun _ => ?_) (fun _ => ?_)
    · refine pm_irun 2 (σ' := (38, [some (.ref 49), some (.int q3), none, none], [.int (114 : Int32), .int q3], M2)) rfl ?_
      refine pm_iite (σ1 := (45, [some (.ref 49), some (.int q3), none, none], [], M2)) (σ2 := (41, [some (.ref 49), some (.int q3), none, none], [], M2)) rfl (fun _ => ?_) (fun _ => ?_)
      · refine pm_irun 2 (σ' := (48, [some (.ref 49), some (.int q3), none, none], [.int (104 : Int32), .int q3], M2)) rfl ?_
        refine pm_iite (σ1 := (57, [some (.ref 49), some (.int q3), none, none], [], M2)) (σ2 := (51, [some (.ref 49), some (.int q3), none, none], [], M2)) rfl (fun _ => ?_) (fun _ => ?_)
        · refine pm_irun 2 (σ' := (62, [some (.ref 49), some (.int q3), none, none], [.int (2 : Int32)], M2)) rfl ?_
          exact hj4 _ _
        · refine pm_irun 2 (σ' := (54, [some (.ref 49), some (.int q3), none, none], [.int (110 : Int32), .int q3], M2)) rfl ?_
          refine pm_iite (σ1 := (61, [some (.ref 49), some (.int q3), none, none], [], M2)) (σ2 := (57, [some (.ref 49), some (.int q3), none, none], [], M2)) rfl (fun _ => ?_) (fun _ => ?_)
          · refine pm_irun 1 (σ' := (62, [some (.ref 49), some (.int q3), none, none], [.int (0 : Int32)], M2)) rfl ?_
            exact hj4 _ _
          · refine pm_irun 2 (σ' := (62, [some (.ref 49), some (.int q3), none, none], [.int (2 : Int32)], M2)) rfl ?_
            exact hj4 _ _
      · refine pm_irun 2 (σ' := (62, [some (.ref 49), some (.int q3), none, none], [.int (4 : Int32)], M2)) rfl ?_
        exact hj4 _ _
    · refine pm_irun 2 (σ' := (62, [some (.ref 49), some (.int q3), none, none], [.int (3 : Int32)], M2)) rfl ?_
      exact hj4 _ _
  refine pm_iite (σ1 := (23, [some (.ref 49), none, none, none], [], M)) (σ2 := (11, [some (.ref 49), none, none, none], [], M)) rfl (fun _ => ?_) (fun _ => ?_)
  · refine pm_irun 1 (σ' := (24, [some (.ref 49), none, none, none], [.int (-1 : Int32)], M)) rfl ?_
    exact hj1 _ _
  · refine pm_irun 4 (σ' := (19, [some (.ref 49), none, none, none], [.int (M.1 49 10), .ref 56], M)) rfl ?_
    refine pm_igd (σ1 := (20, [some (.ref 49), none, none, none], [.int (M.1 56 (M.1 49 10).toNatClampNeg)], M)) rfl (fun _ => ?_)
    refine pm_irun 1 (σ' := (24, [some (.ref 49), none, none, none], [.int (M.1 56 (M.1 49 10).toNatClampNeg)], M)) rfl ?_
    exact hj1 _ _
