def sC_item (a1 : Int32) (a2 : Int32) (M : pm_M) : Option (Int64 × pm_M) := pm_bd (sC_isSheet a1 M) fun v2 M1 => if v2 = 0 then (some ((-4611686018427387904 : Int64), M1)) else (if a1 = 0 then (pm_bd (sSheet_isMissing_40 M1) fun v4 M3 => if ¬ v4 = 0 then (some ((-4611686018427387904 : Int64), M3)) else (if a1 = 0 then (pm_bd (sSheet_hasItem_40 a2 M3) fun v6 M5 => if ¬ v6 = 0 then (if a1 = 0 then (if pm_in a2 40 then (some ((M5.2 41 a2.toNatClampNeg), M5)) else none) else if a1 = 1 then (if pm_in a2 40 then (some ((M5.2 43 a2.toNatClampNeg), M5)) else none) else if a1 = 2 then (if pm_in a2 40 then (some ((M5.2 45 a2.toNatClampNeg), M5)) else none) else if a1 = 3 then (if pm_in a2 40 then (some ((M5.2 47 a2.toNatClampNeg), M5)) else none) else none) else (some ((-4611686018427387904 : Int64), M5))) else if a1 = 1 then (pm_bd (sSheet_hasItem_42 a2 M3) fun v8 M7 => if ¬ v8 = 0 then (if a1 = 0 then (if pm_in a2 40 then (some ((M7.2 41 a2.toNatClampNeg), M7)) else none) else if a1 = 1 then (if pm_in a2 40 then (some ((M7.2 43 a2.toNatClampNeg), M7)) else none) else if a1 = 2 then (if pm_in a2 40 then (some ((M7.2 45 a2.toNatClampNeg), M7)) else none) else if a1 = 3 then (if pm_in a2 40 then (some ((M7.2 47 a2.toNatClampNeg), M7)) else none) else none) else (some ((-4611686018427387904 : Int64), M7))) else if a1 = 2 then (pm_bd (sSheet_hasItem_44 a2 M3) fun v10 M9 => if ¬ v10 = 0 then (if a1 = 0 then (if pm_in a2 40 then (some ((M9.2 41 a2.toNatClampNeg), M9)) else none) else if a1 = 1 then (if pm_in a2 40 then (some ((M9.2 43 a2.toNatClampNeg), M9)) else none) else if a1 = 2 then (if pm_in a2 40 then (some ((M9.2 45 a2.toNatClampNeg), M9)) else none) else if a1 = 3 then (if pm_in a2 40 then (some ((M9.2 47 a2.toNatClampNeg), M9)) else none) else none) else (some ((-4611686018427387904 : Int64), M9))) else if a1 = 3 then (pm_bd (sSheet_hasItem_46 a2 M3) fun v12 M11 => if ¬ v12 = 0 then (if a1 = 0 then (if pm_in a2 40 then (some ((M11.2 41 a2.toNatClampNeg), M11)) else none) else if a1 = 1 then (if pm_in a2 40 then (some ((M11.2 43 a2.toNatClampNeg), M11)) else none) else if a1 = 2 then (if pm_in a2 40 then (some ((M11.2 45 a2.toNatClampNeg), M11)) else none) else if a1 = 3 then (if pm_in a2 40 then (some ((M11.2 47 a2.toNatClampNeg), M11)) else none) else none) else (some ((-4611686018427387904 : Int64), M11))) else none)) else if a1 = 1 then (pm_bd (sSheet_isMissing_42 M1) fun v14 M13 => if ¬ v14 = 0 then (some ((-4611686018427387904 : Int64), M13)) else (if a1 = 0 then (pm_bd (sSheet_hasItem_40 a2 M13) fun v16 M15 => if ¬ v16 = 0 then (if a1 = 0 then (if pm_in a2 40 then (some ((M15.2 41 a2.toNatClampNeg), M15)) else none) else if a1 = 1 then (if pm_in a2 40 then (some ((M15.2 43 a2.toNatClampNeg), M15)) else none) else if a1 = 2 then (if pm_in a2 40 then (some ((M15.2 45 a2.toNatClampNeg), M15)) else none) else if a1 = 3 then (if pm_in a2 40 then (some ((M15.2 47 a2.toNatClampNeg), M15)) else none) else none) else (some ((-4611686018427387904 : Int64), M15))) else if a1 = 1 then (pm_bd (sSheet_hasItem_42 a2 M13) fun v18 M17 => if ¬ v18 = 0 then (if a1 = 0 then (if pm_in a2 40 then (some ((M17.2 41 a2.toNatClampNeg), M17)) else none) else if a1 = 1 then (if pm_in a2 40 then (some ((M17.2 43 a2.toNatClampNeg), M17)) else none) else if a1 = 2 then (if pm_in a2 40 then (some ((M17.2 45 a2.toNatClampNeg), M17)) else none) else if a1 = 3 then (if pm_in a2 40 then (some ((M17.2 47 a2.toNatClampNeg), M17)) else none) else none) else (some ((-4611686018427387904 : Int64), M17))) else if a1 = 2 then (pm_bd (sSheet_hasItem_44 a2 M13) fun v20 M19 => if ¬ v20 = 0 then (if a1 = 0 then (if pm_in a2 40 then (some ((M19.2 41 a2.toNatClampNeg), M19)) else none) else if a1 = 1 then (if pm_in a2 40 then (some ((M19.2 43 a2.toNatClampNeg), M19)) else none) else if a1 = 2 then (if pm_in a2 40 then (some ((M19.2 45 a2.toNatClampNeg), M19)) else none) else if a1 = 3 then (if pm_in a2 40 then (some ((M19.2 47 a2.toNatClampNeg), M19)) else none) else none) else (some ((-4611686018427387904 : Int64), M19))) else if a1 = 3 then (pm_bd (sSheet_hasItem_46 a2 M13) fun v22 M21 => if ¬ v22 = 0 then (if a1 = 0 then (if pm_in a2 40 then (some ((M21.2 41 a2.toNatClampNeg), M21)) else none) else if a1 = 1 then (if pm_in a2 40 then (some ((M21.2 43 a2.toNatClampNeg), M21)) else none) else if a1 = 2 then (if pm_in a2 40 then (some ((M21.2 45 a2.toNatClampNeg), M21)) else none) else if a1 = 3 then (if pm_in a2 40 then (some ((M21.2 47 a2.toNatClampNeg), M21)) else none) else none) else (some ((-4611686018427387904 : Int64), M21))) else none)) else if a1 = 2 then (pm_bd (sSheet_isMissing_44 M1) fun v24 M23 => if ¬ v24 = 0 then (some ((-4611686018427387904 : Int64), M23)) else (if a1 = 0 then (pm_bd (sSheet_hasItem_40 a2 M23) fun v26 M25 => if ¬ v26 = 0 then (if a1 = 0 then (if pm_in a2 40 then (some ((M25.2 41 a2.toNatClampNeg), M25)) else none) else if a1 = 1 then (if pm_in a2 40 then (some ((M25.2 43 a2.toNatClampNeg), M25)) else none) else if a1 = 2 then (if pm_in a2 40 then (some ((M25.2 45 a2.toNatClampNeg), M25)) else none) else if a1 = 3 then (if pm_in a2 40 then (some ((M25.2 47 a2.toNatClampNeg), M25)) else none) else none) else (some ((-4611686018427387904 : Int64), M25))) else if a1 = 1 then (pm_bd (sSheet_hasItem_42 a2 M23) fun v28 M27 => if ¬ v28 = 0 then (if a1 = 0 then (if pm_in a2 40 then (some ((M27.2 41 a2.toNatClampNeg), M27)) else none) else if a1 = 1 then (if pm_in a2 40 then (some ((M27.2 43 a2.toNatClampNeg), M27)) else none) else if a1 = 2 then (if pm_in a2 40 then (some ((M27.2 45 a2.toNatClampNeg), M27)) else none) else if a1 = 3 then (if pm_in a2 40 then (some ((M27.2 47 a2.toNatClampNeg), M27)) else none) else none) else (some ((-4611686018427387904 : Int64), M27))) else if a1 = 2 then (pm_bd (sSheet_hasItem_44 a2 M23) fun v30 M29 => if ¬ v30 = 0 then (if a1 = 0 then (if pm_in a2 40 then (some ((M29.2 41 a2.toNatClampNeg), M29)) else none) else if a1 = 1 then (if pm_in a2 40 then (some ((M29.2 43 a2.toNatClampNeg), M29)) else none) else if a1 = 2 then (if pm_in a2 40 then (some ((M29.2 45 a2.toNatClampNeg), M29)) else none) else if a1 = 3 then (if pm_in a2 40 then (some ((M29.2 47 a2.toNatClampNeg), M29)) else none) else none) else (some ((-4611686018427387904 : Int64), M29))) else if a1 = 3 then (pm_bd (sSheet_hasItem_46 a2 M23) fun v32 M31 => if ¬ v32 = 0 then (if a1 = 0 then (if pm_in a2 40 then (some ((M31.2 41 a2.toNatClampNeg), M31)) else none) else if a1 = 1 then (if pm_in a2 40 then (some ((M31.2 43 a2.toNatClampNeg), M31)) else none) else if a1 = 2 then (if pm_in a2 40 then (some ((M31.2 45 a2.toNatClampNeg), M31)) else none) else if a1 = 3 then (if pm_in a2 40 then (some ((M31.2 47 a2.toNatClampNeg), M31)) else none) else none) else (some ((-4611686018427387904 : Int64), M31))) else none)) else if a1 = 3 then (pm_bd (sSheet_isMissing_46 M1) fun v34 M33 => if ¬ v34 = 0 then (some ((-4611686018427387904 : Int64), M33)) else (if a1 = 0 then (pm_bd (sSheet_hasItem_40 a2 M33) fun v36 M35 => if ¬ v36 = 0 then (if a1 = 0 then (if pm_in a2 40 then (some ((M35.2 41 a2.toNatClampNeg), M35)) else none) else if a1 = 1 then (if pm_in a2 40 then (some ((M35.2 43 a2.toNatClampNeg), M35)) else none) else if a1 = 2 then (if pm_in a2 40 then (some ((M35.2 45 a2.toNatClampNeg), M35)) else none) else if a1 = 3 then (if pm_in a2 40 then (some ((M35.2 47 a2.toNatClampNeg), M35)) else none) else none) else (some ((-4611686018427387904 : Int64), M35))) else if a1 = 1 then (pm_bd (sSheet_hasItem_42 a2 M33) fun v38 M37 => if ¬ v38 = 0 then (if a1 = 0 then (if pm_in a2 40 then (some ((M37.2 41 a2.toNatClampNeg), M37)) else none) else if a1 = 1 then (if pm_in a2 40 then (some ((M37.2 43 a2.toNatClampNeg), M37)) else none) else if a1 = 2 then (if pm_in a2 40 then (some ((M37.2 45 a2.toNatClampNeg), M37)) else none) else if a1 = 3 then (if pm_in a2 40 then (some ((M37.2 47 a2.toNatClampNeg), M37)) else none) else none) else (some ((-4611686018427387904 : Int64), M37))) else if a1 = 2 then (pm_bd (sSheet_hasItem_44 a2 M33) fun v40 M39 => if ¬ v40 = 0 then (if a1 = 0 then (if pm_in a2 40 then (some ((M39.2 41 a2.toNatClampNeg), M39)) else none) else if a1 = 1 then (if pm_in a2 40 then (some ((M39.2 43 a2.toNatClampNeg), M39)) else none) else if a1 = 2 then (if pm_in a2 40 then (some ((M39.2 45 a2.toNatClampNeg), M39)) else none) else if a1 = 3 then (if pm_in a2 40 then (some ((M39.2 47 a2.toNatClampNeg), M39)) else none) else none) else (some ((-4611686018427387904 : Int64), M39))) else if a1 = 3 then (pm_bd (sSheet_hasItem_46 a2 M33) fun v42 M41 => if ¬ v42 = 0 then (if a1 = 0 then (if pm_in a2 40 then (some ((M41.2 41 a2.toNatClampNeg), M41)) else none) else if a1 = 1 then (if pm_in a2 40 then (some ((M41.2 43 a2.toNatClampNeg), M41)) else none) else if a1 = 2 then (if pm_in a2 40 then (some ((M41.2 45 a2.toNatClampNeg), M41)) else none) else if a1 = 3 then (if pm_in a2 40 then (some ((M41.2 47 a2.toNatClampNeg), M41)) else none) else none) else (some ((-4611686018427387904 : Int64), M41))) else none)) else none)
abbrev I_C_item (sh : Option (Int64 × pm_M)) (σ : pm_St) : Prop := pm_Im none (pm_Ev 1) pm_T92 (some .long) pm_rL sh σ
set_option maxHeartbeats 4000000 in
set_option maxRecDepth 100000 in
theorem sC_item_ok (a1 : Int32) (a2 : Int32) (M : pm_M) : ∀ r, sC_item a1 a2 M = some r → pm_Ev 2 92 [.ref 0, .int a1, .int a2] M (pm_rL r).1 (pm_rL r).2 := by
  refine pm_meth (al := [some (.ref 0), some (.int a1), some (.int a2)]) rfl rfl rfl rfl rfl ?_
  unfold sC_item
  show I_C_item _ (0, [some (.ref 0), some (.int a1), some (.int a2)], [], M)
  refine pm_irun 1 (σ' := (1, [some (.ref 0), some (.int a1), some (.int a2)], [.int a1], M)) rfl ?_
  refine pm_icI (as := [.int a1]) (rest := []) rfl rfl rfl rfl (Nat.le_of_ble_eq_true rfl) rfl (fun r h => pm_Ev_mono (Nat.le_of_ble_eq_true rfl) (sC_isSheet_ok a1 M r h)) (fun v2 M1 => ?_)
  show pm_Im _ _ _ _ _ _ (4, [some (.ref 0), some (.int a1), some (.int a2)], [.int v2], M1)
  refine pm_iite (σ1 := (32, [some (.ref 0), some (.int a1), some (.int a2)], [], M1)) (σ2 := (7, [some (.ref 0), some (.int a1), some (.int a2)], [], M1)) rfl (fun _ => ?_) (fun _ => ?_)
  · refine pm_irun 1 (σ' := (35, [some (.ref 0), some (.int a1), some (.int a2)], [.long (-4611686018427387904 : Int64)], M1)) rfl ?_
    exact pm_irL rfl rfl
  · refine pm_irun 3 (σ' := (12, [some (.ref 0), some (.int a1), some (.int a2)], [.int a1, .ref 39], M1)) rfl ?_
    refine pm_iaal rfl ?_ ?_ ?_ ?_
    · show pm_Im _ _ _ _ _ _ (13, [some (.ref 0), some (.int a1), some (.int a2)], [.ref 40], M1)
      refine pm_icI (as := [.ref 40]) (rest := []) rfl rfl rfl rfl (Nat.le_of_ble_eq_true rfl) rfl (fun r h => pm_Ev_mono (Nat.le_of_ble_eq_true rfl) (sSheet_isMissing_40_ok M1 r h)) (fun v4 M3 => ?_)
      show pm_Im _ _ _ _ _ _ (16, [some (.ref 0), some (.int a1), some (.int a2)], [.int v4], M3)
      refine pm_iite (σ1 := (32, [some (.ref 0), some (.int a1), some (.int a2)], [], M3)) (σ2 := (19, [some (.ref 0), some (.int a1), some (.int a2)], [], M3)) rfl (fun _ => ?_) (fun _ => ?_)
      · refine pm_irun 1 (σ' := (35, [some (.ref 0), some (.int a1), some (.int a2)], [.long (-4611686018427387904 : Int64)], M3)) rfl ?_
        exact pm_irL rfl rfl
      · refine pm_irun 3 (σ' := (24, [some (.ref 0), some (.int a1), some (.int a2)], [.int a1, .ref 39], M3)) rfl ?_
        refine pm_iaal rfl ?_ ?_ ?_ ?_
        · show pm_Im _ _ _ _ _ _ (25, [some (.ref 0), some (.int a1), some (.int a2)], [.ref 40], M3)
          refine pm_irun 1 (σ' := (26, [some (.ref 0), some (.int a1), some (.int a2)], [.int a2, .ref 40], M3)) rfl ?_
          refine pm_icI (as := [.ref 40, .int a2]) (rest := []) rfl rfl rfl rfl (Nat.le_of_ble_eq_true rfl) rfl (fun r h => pm_Ev_mono (Nat.le_of_ble_eq_true rfl) (sSheet_hasItem_40_ok a2 M3 r h)) (fun v6 M5 => ?_)
          show pm_Im _ _ _ _ _ _ (29, [some (.ref 0), some (.int a1), some (.int a2)], [.int v6], M5)
          refine pm_iite (σ1 := (36, [some (.ref 0), some (.int a1), some (.int a2)], [], M5)) (σ2 := (32, [some (.ref 0), some (.int a1), some (.int a2)], [], M5)) rfl (fun _ => ?_) (fun _ => ?_)
          · refine pm_irun 3 (σ' := (41, [some (.ref 0), some (.int a1), some (.int a2)], [.int a1, .ref 39], M5)) rfl ?_
            refine pm_iaal rfl ?_ ?_ ?_ ?_
            · show pm_Im _ _ _ _ _ _ (42, [some (.ref 0), some (.int a1), some (.int a2)], [.ref 40], M5)
              refine pm_irun 2 (σ' := (46, [some (.ref 0), some (.int a1), some (.int a2)], [.int a2, .ref 41], M5)) rfl ?_
              refine pm_igd (σ1 := (47, [some (.ref 0), some (.int a1), some (.int a2)], [.long (M5.2 41 a2.toNatClampNeg)], M5)) rfl (fun _ => ?_)
              exact pm_irL rfl rfl
            · show pm_Im _ _ _ _ _ _ (42, [some (.ref 0), some (.int a1), some (.int a2)], [.ref 42], M5)
              refine pm_irun 2 (σ' := (46, [some (.ref 0), some (.int a1), some (.int a2)], [.int a2, .ref 43], M5)) rfl ?_
              refine pm_igd (σ1 := (47, [some (.ref 0), some (.int a1), some (.int a2)], [.long (M5.2 43 a2.toNatClampNeg)], M5)) rfl (fun _ => ?_)
              exact pm_irL rfl rfl
            · show pm_Im _ _ _ _ _ _ (42, [some (.ref 0), some (.int a1), some (.int a2)], [.ref 44], M5)
              refine pm_irun 2 (σ' := (46, [some (.ref 0), some (.int a1), some (.int a2)], [.int a2, .ref 45], M5)) rfl ?_
              refine pm_igd (σ1 := (47, [some (.ref 0), some (.int a1), some (.int a2)], [.long (M5.2 45 a2.toNatClampNeg)], M5)) rfl (fun _ => ?_)
              exact pm_irL rfl rfl
            · show pm_Im _ _ _ _ _ _ (42, [some (.ref 0), some (.int a1), some (.int a2)], [.ref 46], M5)
              refine pm_irun 2 (σ' := (46, [some (.ref 0), some (.int a1), some (.int a2)], [.int a2, .ref 47], M5)) rfl ?_
              refine pm_igd (σ1 := (47, [some (.ref 0), some (.int a1), some (.int a2)], [.long (M5.2 47 a2.toNatClampNeg)], M5)) rfl (fun _ => ?_)
              exact pm_irL rfl rfl
          · refine pm_irun 1 (σ' := (35, [some (.ref 0), some (.int a1), some (.int a2)], [.long (-4611686018427387904 : Int64)], M5)) rfl ?_
            exact pm_irL rfl rfl
        · show pm_Im _ _ _ _ _ _ (25, [some (.ref 0), some (.int a1), some (.int a2)], [.ref 42], M3)
          refine pm_irun 1 (σ' := (26, [some (.ref 0), some (.int a1), some (.int a2)], [.int a2, .ref 42], M3)) rfl ?_
          refine pm_icI (as := [.ref 42, .int a2]) (rest := []) rfl rfl rfl rfl (Nat.le_of_ble_eq_true rfl) rfl (fun r h => pm_Ev_mono (Nat.le_of_ble_eq_true rfl) (sSheet_hasItem_42_ok a2 M3 r h)) (fun v8 M7 => ?_)
          show pm_Im _ _ _ _ _ _ (29, [some (.ref 0), some (.int a1), some (.int a2)], [.int v8], M7)
          refine pm_iite (σ1 := (36, [some (.ref 0), some (.int a1), some (.int a2)], [], M7)) (σ2 := (32, [some (.ref 0), some (.int a1), some (.int a2)], [], M7)) rfl (fun _ => ?_) (fun _ => ?_)
          · refine pm_irun 3 (σ' := (41, [some (.ref 0), some (.int a1), some (.int a2)], [.int a1, .ref 39], M7)) rfl ?_
            refine pm_iaal rfl ?_ ?_ ?_ ?_
            · show pm_Im _ _ _ _ _ _ (42, [some (.ref 0), some (.int a1), some (.int a2)], [.ref 40], M7)
              refine pm_irun 2 (σ' := (46, [some (.ref 0), some (.int a1), some (.int a2)], [.int a2, .ref 41], M7)) rfl ?_
              refine pm_igd (σ1 := (47, [some (.ref 0), some (.int a1), some (.int a2)], [.long (M7.2 41 a2.toNatClampNeg)], M7)) rfl (fun _ => ?_)
              exact pm_irL rfl rfl
            · show pm_Im _ _ _ _ _ _ (42, [some (.ref 0), some (.int a1), some (.int a2)], [.ref 42], M7)
              refine pm_irun 2 (σ' := (46, [some (.ref 0), some (.int a1), some (.int a2)], [.int a2, .ref 43], M7)) rfl ?_
              refine pm_igd (σ1 := (47, [some (.ref 0), some (.int a1), some (.int a2)], [.long (M7.2 43 a2.toNatClampNeg)], M7)) rfl (fun _ => ?_)
              exact pm_irL rfl rfl
            · show pm_Im _ _ _ _ _ _ (42, [some (.ref 0), some (.int a1), some (.int a2)], [.ref 44], M7)
              refine pm_irun 2 (σ' := (46, [some (.ref 0), some (.int a1), some (.int a2)], [.int a2, .ref 45], M7)) rfl ?_
              refine pm_igd (σ1 := (47, [some (.ref 0), some (.int a1), some (.int a2)], [.long (M7.2 45 a2.toNatClampNeg)], M7)) rfl (fun _ => ?_)
              exact pm_irL rfl rfl
            · show pm_Im _ _ _ _ _ _ (42, [some (.ref 0), some (.int a1), some (.int a2)], [.ref 46], M7)
              refine pm_irun 2 (σ' := (46, [some (.ref 0), some (.int a1), some (.int a2)], [.int a2, .ref 47], M7)) rfl ?_
              refine pm_igd (σ1 := (47, [some (.ref 0), some (.int a1), some (.int a2)], [.long (M7.2 47 a2.toNatClampNeg)], M7)) rfl (fun _ => ?_)
              exact pm_irL rfl rfl
          · refine pm_irun 1 (σ' := (35, [some (.ref 0), some (.int a1), some (.int a2)], [.long (-4611686018427387904 : Int64)], M7)) rfl ?_
            exact pm_irL rfl rfl
        · show pm_Im _ _ _ _ _ _ (25, [some (.ref 0), some (.int a1), some (.int a2)], [.ref 44], M3)
          refine pm_irun 1 (σ' := (26, [some (.ref 0), some (.int a1), some (.int a2)], [.int a2, .ref 44], M3)) rfl ?_
          refine pm_icI (as := [.ref 44, .int a2]) (rest := []) rfl rfl rfl rfl (Nat.le_of_ble_eq_true rfl) rfl (fun r h => pm_Ev_mono (Nat.le_of_ble_eq_true rfl) (sSheet_hasItem_44_ok a2 M3 r h)) (fun v10 M9 => ?_)
          show pm_Im _ _ _ _ _ _ (29, [some (.ref 0), some (.int a1), some (.int a2)], [.int v10], M9)
          refine pm_iite (σ1 := (36, [some (.ref 0), some (.int a1), some (.int a2)], [], M9)) (σ2 := (32, [some (.ref 0), some (.int a1), some (.int a2)], [], M9)) rfl (fun _ => ?_) (fun _ => ?_)
          · refine pm_irun 3 (σ' := (41, [some (.ref 0), some (.int a1), some (.int a2)], [.int a1, .ref 39], M9)) rfl ?_
            refine pm_iaal rfl ?_ ?_ ?_ ?_
            · show pm_Im _ _ _ _ _ _ (42, [some (.ref 0), some (.int a1), some (.int a2)], [.ref 40], M9)
              refine pm_irun 2 (σ' := (46, [some (.ref 0), some (.int a1), some (.int a2)], [.int a2, .ref 41], M9)) rfl ?_
              refine pm_igd (σ1 := (47, [some (.ref 0), some (.int a1), some (.int a2)], [.long (M9.2 41 a2.toNatClampNeg)], M9)) rfl (fun _ => ?_)
              exact pm_irL rfl rfl
            · show pm_Im _ _ _ _ _ _ (42, [some (.ref 0), some (.int a1), some (.int a2)], [.ref 42], M9)
              refine pm_irun 2 (σ' := (46, [some (.ref 0), some (.int a1), some (.int a2)], [.int a2, .ref 43], M9)) rfl ?_
              refine pm_igd (σ1 := (47, [some (.ref 0), some (.int a1), some (.int a2)], [.long (M9.2 43 a2.toNatClampNeg)], M9)) rfl (fun _ => ?_)
              exact pm_irL rfl rfl
            · show pm_Im _ _ _ _ _ _ (42, [some (.ref 0), some (.int a1), some (.int a2)], [.ref 44], M9)
              refine pm_irun 2 (σ' := (46, [some (.ref 0), some (.int a1), some (.int a2)], [.int a2, .ref 45], M9)) rfl ?_
              refine pm_igd (σ1 := (47, [some (.ref 0), some (.int a1), some (.int a2)], [.long (M9.2 45 a2.toNatClampNeg)], M9)) rfl (fun _ => ?_)
              exact pm_irL rfl rfl
            · show pm_Im _ _ _ _ _ _ (42, [some (.ref 0), some (.int a1), some (.int a2)], [.ref 46], M9)
              refine pm_irun 2 (σ' := (46, [some (.ref 0), some (.int a1), some (.int a2)], [.int a2, .ref 47], M9)) rfl ?_
              refine pm_igd (σ1 := (47, [some (.ref 0), some (.int a1), some (.int a2)], [.long (M9.2 47 a2.toNatClampNeg)], M9)) rfl (fun _ => ?_)
              exact pm_irL rfl rfl
          · refine pm_irun 1 (σ' := (35, [some (.ref 0), some (.int a1), some (.int a2)], [.long (-4611686018427387904 : Int64)], M9)) rfl ?_
            exact pm_irL rfl rfl
        · show pm_Im _ _ _ _ _ _ (25, [some (.ref 0), some (.int a1), some (.int a2)], [.ref 46], M3)
          refine pm_irun 1 (σ' := (26, [some (.ref 0), some (.int a1), some (.int a2)], [.int a2, .ref 46], M3)) rfl ?_
          refine pm_icI (as := [.ref 46, .int a2]) (rest := []) rfl rfl rfl rfl (Nat.le_of_ble_eq_true rfl) rfl (fun r h => pm_Ev_mono (Nat.le_of_ble_eq_true rfl) (sSheet_hasItem_46_ok a2 M3 r h)) (fun v12 M11 => ?_)
          show pm_Im _ _ _ _ _ _ (29, [some (.ref 0), some (.int a1), some (.int a2)], [.int v12], M11)
          refine pm_iite (σ1 := (36, [some (.ref 0), some (.int a1), some (.int a2)], [], M11)) (σ2 := (32, [some (.ref 0), some (.int a1), some (.int a2)], [], M11)) rfl (fun _ => ?_) (fun _ => ?_)
          · refine pm_irun 3 (σ' := (41, [some (.ref 0), some (.int a1), some (.int a2)], [.int a1, .ref 39], M11)) rfl ?_
            refine pm_iaal rfl ?_ ?_ ?_ ?_
            · show pm_Im _ _ _ _ _ _ (42, [some (.ref 0), some (.int a1), some (.int a2)], [.ref 40], M11)
              refine pm_irun 2 (σ' := (46, [some (.ref 0), some (.int a1), some (.int a2)], [.int a2, .ref 41], M11)) rfl ?_
              refine pm_igd (σ1 := (47, [some (.ref 0), some (.int a1), some (.int a2)], [.long (M11.2 41 a2.toNatClampNeg)], M11)) rfl (fun _ => ?_)
              exact pm_irL rfl rfl
            · show pm_Im _ _ _ _ _ _ (42, [some (.ref 0), some (.int a1), some (.int a2)], [.ref 42], M11)
              refine pm_irun 2 (σ' := (46, [some (.ref 0), some (.int a1), some (.int a2)], [.int a2, .ref 43], M11)) rfl ?_
              refine pm_igd (σ1 := (47, [some (.ref 0), some (.int a1), some (.int a2)], [.long (M11.2 43 a2.toNatClampNeg)], M11)) rfl (fun _ => ?_)
              exact pm_irL rfl rfl
            · show pm_Im _ _ _ _ _ _ (42, [some (.ref 0), some (.int a1), some (.int a2)], [.ref 44], M11)
              refine pm_irun 2 (σ' := (46, [some (.ref 0), some (.int a1), some (.int a2)], [.int a2, .ref 45], M11)) rfl ?_
              refine pm_igd (σ1 := (47, [some (.ref 0), some (.int a1), some (.int a2)], [.long (M11.2 45 a2.toNatClampNeg)], M11)) rfl (fun _ => ?_)
              exact pm_irL rfl rfl
            · show pm_Im _ _ _ _ _ _ (42, [some (.ref 0), some (.int a1), some (.int a2)], [.ref 46], M11)
              refine pm_irun 2 (σ' := (46, [some (.ref 0), some (.int a1), some (.int a2)], [.int a2, .ref 47], M11)) rfl ?_
              refine pm_igd (σ1 := (47, [some (.ref 0), some (.int a1), some (.int a2)], [.long (M11.2 47 a2.toNatClampNeg)], M11)) rfl (fun _ => ?_)
              exact pm_irL rfl rfl
          · refine pm_irun 1 (σ' := (35, [some (.ref 0), some (.int a1), some (.int a2)], [.long (-4611686018427387904 : Int64)], M11)) rfl ?_
            exact pm_irL rfl rfl
    · show pm_Im _ _ _ _ _ _ (13, [some (.ref 0), some (.int a1), some (.int a2)], [.ref 42], M1)
      refine pm_icI (as := [.ref 42]) (rest := []) rfl rfl rfl rfl (Nat.le_of_ble_eq_true rfl) rfl (fun r h => pm_Ev_mono (Nat.le_of_ble_eq_true rfl) (sSheet_isMissing_42_ok M1 r h)) (fun v14 M13 => ?_)
      show pm_Im _ _ _ _ _ _ (16, [some (.ref 0), some (.int a1), some (.int a2)], [.int v14], M13)
      refine pm_iite (σ1 := (32, [some (.ref 0), some (.int a1), some (.int a2)], [], M13)) (σ2 := (19, [some (.ref 0), some (.int a1), some (.int a2)], [], M13)) rfl (fun _ => ?_) (fun _ => ?_)
      · refine pm_irun 1 (σ' := (35, [some (.ref 0), some (.int a1), some (.int a2)], [.long (-4611686018427387904 : Int64)], M13)) rfl ?_
        exact pm_irL rfl rfl
      · refine pm_irun 3 (σ' := (24, [some (.ref 0), some (.int a1), some (.int a2)], [.int a1, .ref 39], M13)) rfl ?_
        refine pm_iaal rfl ?_ ?_ ?_ ?_
        · show pm_Im _ _ _ _ _ _ (25, [some (.ref 0), some (.int a1), some (.int a2)], [.ref 40], M13)
          refine pm_irun 1 (σ' := (26, [some (.ref 0), some (.int a1), some (.int a2)], [.int a2, .ref 40], M13)) rfl ?_
          refine pm_icI (as := [.ref 40, .int a2]) (rest := []) rfl rfl rfl rfl (Nat.le_of_ble_eq_true rfl) rfl (fun r h => pm_Ev_mono (Nat.le_of_ble_eq_true rfl) (sSheet_hasItem_40_ok a2 M13 r h)) (fun v16 M15 => ?_)
          show pm_Im _ _ _ _ _ _ (29, [some (.ref 0), some (.int a1), some (.int a2)], [.int v16], M15)
          refine pm_iite (σ1 := (36, [some (.ref 0), some (.int a1), some (.int a2)], [], M15)) (σ2 := (32, [some (.ref 0), some (.int a1), some (.int a2)], [], M15)) rfl (fun _ => ?_) (fun _ => ?_)
          · refine pm_irun 3 (σ' := (41, [some (.ref 0), some (.int a1), some (.int a2)], [.int a1, .ref 39], M15)) rfl ?_
            refine pm_iaal rfl ?_ ?_ ?_ ?_
            · show pm_Im _ _ _ _ _ _ (42, [some (.ref 0), some (.int a1), some (.int a2)], [.ref 40], M15)
              refine pm_irun 2 (σ' := (46, [some (.ref 0), some (.int a1), some (.int a2)], [.int a2, .ref 41], M15)) rfl ?_
              refine pm_igd (σ1 := (47, [some (.ref 0), some (.int a1), some (.int a2)], [.long (M15.2 41 a2.toNatClampNeg)], M15)) rfl (fun _ => ?_)
              exact pm_irL rfl rfl
            · show pm_Im _ _ _ _ _ _ (42, [some (.ref 0), some (.int a1), some (.int a2)], [.ref 42], M15)
              refine pm_irun 2 (σ' := (46, [some (.ref 0), some (.int a1), some (.int a2)], [.int a2, .ref 43], M15)) rfl ?_
              refine pm_igd (σ1 := (47, [some (.ref 0), some (.int a1), some (.int a2)], [.long (M15.2 43 a2.toNatClampNeg)], M15)) rfl (fun _ => ?_)
              exact pm_irL rfl rfl
            · show pm_Im _ _ _ _ _ _ (42, [some (.ref 0), some (.int a1), some (.int a2)], [.ref 44], M15)
              refine pm_irun 2 (σ' := (46, [some (.ref 0), some (.int a1), some (.int a2)], [.int a2, .ref 45], M15)) rfl ?_
              refine pm_igd (σ1 := (47, [some (.ref 0), some (.int a1), some (.int a2)], [.long (M15.2 45 a2.toNatClampNeg)], M15)) rfl (fun _ => ?_)
              exact pm_irL rfl rfl
            · show pm_Im _ _ _ _ _ _ (42, [some (.ref 0), some (.int a1), some (.int a2)], [.ref 46], M15)
              refine pm_irun 2 (σ' := (46, [some (.ref 0), some (.int a1), some (.int a2)], [.int a2, .ref 47], M15)) rfl ?_
              refine pm_igd (σ1 := (47, [some (.ref 0), some (.int a1), some (.int a2)], [.long (M15.2 47 a2.toNatClampNeg)], M15)) rfl (fun _ => ?_)
              exact pm_irL rfl rfl
          · refine pm_irun 1 (σ' := (35, [some (.ref 0), some (.int a1), some (.int a2)], [.long (-4611686018427387904 : Int64)], M15)) rfl ?_
            exact pm_irL rfl rfl
        · show pm_Im _ _ _ _ _ _ (25, [some (.ref 0), some (.int a1), some (.int a2)], [.ref 42], M13)
          refine pm_irun 1 (σ' := (26, [some (.ref 0), some (.int a1), some (.int a2)], [.int a2, .ref 42], M13)) rfl ?_
          refine pm_icI (as := [.ref 42, .int a2]) (rest := []) rfl rfl rfl rfl (Nat.le_of_ble_eq_true rfl) rfl (fun r h => pm_Ev_mono (Nat.le_of_ble_eq_true rfl) (sSheet_hasItem_42_ok a2 M13 r h)) (fun v18 M17 => ?_)
          show pm_Im _ _ _ _ _ _ (29, [some (.ref 0), some (.int a1), some (.int a2)], [.int v18], M17)
          refine pm_iite (σ1 := (36, [some (.ref 0), some (.int a1), some (.int a2)], [], M17)) (σ2 := (32, [some (.ref 0), some (.int a1), some (.int a2)], [], M17)) rfl (fun _ => ?_) (fun _ => ?_)
          · refine pm_irun 3 (σ' := (41, [some (.ref 0), some (.int a1), some (.int a2)], [.int a1, .ref 39], M17)) rfl ?_
            refine pm_iaal rfl ?_ ?_ ?_ ?_
            · show pm_Im _ _ _ _ _ _ (42, [some (.ref 0), some (.int a1), some (.int a2)], [.ref 40], M17)
              refine pm_irun 2 (σ' := (46, [some (.ref 0), some (.int a1), some (.int a2)], [.int a2, .ref 41], M17)) rfl ?_
              refine pm_igd (σ1 := (47, [some (.ref 0), some (.int a1), some (.int a2)], [.long (M17.2 41 a2.toNatClampNeg)], M17)) rfl (fun _ => ?_)
              exact pm_irL rfl rfl
            · show pm_Im _ _ _ _ _ _ (42, [some (.ref 0), some (.int a1), some (.int a2)], [.ref 42], M17)
              refine pm_irun 2 (σ' := (46, [some (.ref 0), some (.int a1), some (.int a2)], [.int a2, .ref 43], M17)) rfl ?_
              refine pm_igd (σ1 := (47, [some (.ref 0), some (.int a1), some (.int a2)], [.long (M17.2 43 a2.toNatClampNeg)], M17)) rfl (fun _ => ?_)
              exact pm_irL rfl rfl
            · show pm_Im _ _ _ _ _ _ (42, [some (.ref 0), some (.int a1), some (.int a2)], [.ref 44], M17)
              refine pm_irun 2 (σ' := (46, [some (.ref 0), some (.int a1), some (.int a2)], [.int a2, .ref 45], M17)) rfl ?_
              refine pm_igd (σ1 := (47, [some (.ref 0), some (.int a1), some (.int a2)], [.long (M17.2 45 a2.toNatClampNeg)], M17)) rfl (fun _ => ?_)
              exact pm_irL rfl rfl
            · show pm_Im _ _ _ _ _ _ (42, [some (.ref 0), some (.int a1), some (.int a2)], [.ref 46], M17)
              refine pm_irun 2 (σ' := (46, [some (.ref 0), some (.int a1), some (.int a2)], [.int a2, .ref 47], M17)) rfl ?_
              refine pm_igd (σ1 := (47, [some (.ref 0), some (.int a1), some (.int a2)], [.long (M17.2 47 a2.toNatClampNeg)], M17)) rfl (fun _ => ?_)
              exact pm_irL rfl rfl
          · refine pm_irun 1 (σ' := (35, [some (.ref 0), some (.int a1), some (.int a2)], [.long (-4611686018427387904 : Int64)], M17)) rfl ?_
            exact pm_irL rfl rfl
        · show pm_Im _ _ _ _ _ _ (25, [some (.ref 0), some (.int a1), some (.int a2)], [.ref 44], M13)
          refine pm_irun 1 (σ' := (26, [some (.ref 0), some (.int a1), some (.int a2)], [.int a2, .ref 44], M13)) rfl ?_
          refine pm_icI (as := [.ref 44, .int a2]) (rest := []) rfl rfl rfl rfl (Nat.le_of_ble_eq_true rfl) rfl (fun r h => pm_Ev_mono (Nat.le_of_ble_eq_true rfl) (sSheet_hasItem_44_ok a2 M13 r h)) (fun v20 M19 => ?_)
          show pm_Im _ _ _ _ _ _ (29, [some (.ref 0), some (.int a1), some (.int a2)], [.int v20], M19)
          refine pm_iite (σ1 := (36, [some (.ref 0), some (.int a1), some (.int a2)], [], M19)) (σ2 := (32, [some (.ref 0), some (.int a1), some (.int a2)], [], M19)) rfl (fun _ => ?_) (fun _ => ?_)
          · refine pm_irun 3 (σ' := (41, [some (.ref 0), some (.int a1), some (.int a2)], [.int a1, .ref 39], M19)) rfl ?_
            refine pm_iaal rfl ?_ ?_ ?_ ?_
            · show pm_Im _ _ _ _ _ _ (42, [some (.ref 0), some (.int a1), some (.int a2)], [.ref 40], M19)
              refine pm_irun 2 (σ' := (46, [some (.ref 0), some (.int a1), some (.int a2)], [.int a2, .ref 41], M19)) rfl ?_
              refine pm_igd (σ1 := (47, [some (.ref 0), some (.int a1), some (.int a2)], [.long (M19.2 41 a2.toNatClampNeg)], M19)) rfl (fun _ => ?_)
              exact pm_irL rfl rfl
            · show pm_Im _ _ _ _ _ _ (42, [some (.ref 0), some (.int a1), some (.int a2)], [.ref 42], M19)
              refine pm_irun 2 (σ' := (46, [some (.ref 0), some (.int a1), some (.int a2)], [.int a2, .ref 43], M19)) rfl ?_
              refine pm_igd (σ1 := (47, [some (.ref 0), some (.int a1), some (.int a2)], [.long (M19.2 43 a2.toNatClampNeg)], M19)) rfl (fun _ => ?_)
              exact pm_irL rfl rfl
            · show pm_Im _ _ _ _ _ _ (42, [some (.ref 0), some (.int a1), some (.int a2)], [.ref 44], M19)
              refine pm_irun 2 (σ' := (46, [some (.ref 0), some (.int a1), some (.int a2)], [.int a2, .ref 45], M19)) rfl ?_
              refine pm_igd (σ1 := (47, [some (.ref 0), some (.int a1), some (.int a2)], [.long (M19.2 45 a2.toNatClampNeg)], M19)) rfl (fun _ => ?_)
              exact pm_irL rfl rfl
            · show pm_Im _ _ _ _ _ _ (42, [some (.ref 0), some (.int a1), some (.int a2)], [.ref 46], M19)
              refine pm_irun 2 (σ' := (46, [some (.ref 0), some (.int a1), some (.int a2)], [.int a2, .ref 47], M19)) rfl ?_
              refine pm_igd (σ1 := (47, [some (.ref 0), some (.int a1), some (.int a2)], [.long (M19.2 47 a2.toNatClampNeg)], M19)) rfl (fun _ => ?_)
              exact pm_irL rfl rfl
          · refine pm_irun 1 (σ' := (35, [some (.ref 0), some (.int a1), some (.int a2)], [.long (-4611686018427387904 : Int64)], M19)) rfl ?_
            exact pm_irL rfl rfl
        · show pm_Im _ _ _ _ _ _ (25, [some (.ref 0), some (.int a1), some (.int a2)], [.ref 46], M13)
          refine pm_irun 1 (σ' := (26, [some (.ref 0), some (.int a1), some (.int a2)], [.int a2, .ref 46], M13)) rfl ?_
          refine pm_icI (as := [.ref 46, .int a2]) (rest := []) rfl rfl rfl rfl (Nat.le_of_ble_eq_true rfl) rfl (fun r h => pm_Ev_mono (Nat.le_of_ble_eq_true rfl) (sSheet_hasItem_46_ok a2 M13 r h)) (fun v22 M21 => ?_)
          show pm_Im _ _ _ _ _ _ (29, [some (.ref 0), some (.int a1), some (.int a2)], [.int v22], M21)
          refine pm_iite (σ1 := (36, [some (.ref 0), some (.int a1), some (.int a2)], [], M21)) (σ2 := (32, [some (.ref 0), some (.int a1), some (.int a2)], [], M21)) rfl (fun _ => ?_) (fun _ => ?_)
          · refine pm_irun 3 (σ' := (41, [some (.ref 0), some (.int a1), some (.int a2)], [.int a1, .ref 39], M21)) rfl ?_
            refine pm_iaal rfl ?_ ?_ ?_ ?_
            · show pm_Im _ _ _ _ _ _ (42, [some (.ref 0), some (.int a1), some (.int a2)], [.ref 40], M21)
              refine pm_irun 2 (σ' := (46, [some (.ref 0), some (.int a1), some (.int a2)], [.int a2, .ref 41], M21)) rfl ?_
              refine pm_igd (σ1 := (47, [some (.ref 0), some (.int a1), some (.int a2)], [.long (M21.2 41 a2.toNatClampNeg)], M21)) rfl (fun _ => ?_)
              exact pm_irL rfl rfl
            · show pm_Im _ _ _ _ _ _ (42, [some (.ref 0), some (.int a1), some (.int a2)], [.ref 42], M21)
              refine pm_irun 2 (σ' := (46, [some (.ref 0), some (.int a1), some (.int a2)], [.int a2, .ref 43], M21)) rfl ?_
              refine pm_igd (σ1 := (47, [some (.ref 0), some (.int a1), some (.int a2)], [.long (M21.2 43 a2.toNatClampNeg)], M21)) rfl (fun _ => ?_)
              exact pm_irL rfl rfl
            · show pm_Im _ _ _ _ _ _ (42, [some (.ref 0), some (.int a1), some (.int a2)], [.ref 44], M21)
              refine pm_irun 2 (σ' := (46, [some (.ref 0), some (.int a1), some (.int a2)], [.int a2, .ref 45], M21)) rfl ?_
              refine pm_igd (σ1 := (47, [some (.ref 0), some (.int a1), some (.int a2)], [.long (M21.2 45 a2.toNatClampNeg)], M21)) rfl (fun _ => ?_)
              exact pm_irL rfl rfl
            · show pm_Im _ _ _ _ _ _ (42, [some (.ref 0), some (.int a1), some (.int a2)], [.ref 46], M21)
              refine pm_irun 2 (σ' := (46, [some (.ref 0), some (.int a1), some (.int a2)], [.int a2, .ref 47], M21)) rfl ?_
              refine pm_igd (σ1 := (47, [some (.ref 0), some (.int a1), some (.int a2)], [.long (M21.2 47 a2.toNatClampNeg)], M21)) rfl (fun _ => ?_)
              exact pm_irL rfl rfl
          · refine pm_irun 1 (σ' := (35, [some (.ref 0), some (.int a1), some (.int a2)], [.long (-4611686018427387904 : Int64)], M21)) rfl ?_
            exact pm_irL rfl rfl
    · show pm_Im _ _ _ _ _ _ (13, [some (.ref 0), some (.int a1), some (.int a2)], [.ref 44], M1)
      refine pm_icI (as := [.ref 44]) (rest := []) rfl rfl rfl rfl (Nat.le_of_ble_eq_true rfl) rfl (fun r h => pm_Ev_mono (Nat.le_of_ble_eq_true rfl) (sSheet_isMissing_44_ok M1 r h)) (fun v24 M23 => ?_)
      show pm_Im _ _ _ _ _ _ (16, [some (.ref 0), some (.int a1), some (.int a2)], [.int v24], M23)
      refine pm_iite (σ1 := (32, [some (.ref 0), some (.int a1), some (.int a2)], [], M23)) (σ2 := (19, [some (.ref 0), some (.int a1), some (.int a2)], [], M23)) rfl (fun _ => ?_) (fun _ => ?_)
      · refine pm_irun 1 (σ' := (35, [some (.ref 0), some (.int a1), some (.int a2)], [.long (-4611686018427387904 : Int64)], M23)) rfl ?_
        exact pm_irL rfl rfl
      · refine pm_irun 3 (σ' := (24, [some (.ref 0), some (.int a1), some (.int a2)], [.int a1, .ref 39], M23)) rfl ?_
        refine pm_iaal rfl ?_ ?_ ?_ ?_
        · show pm_Im _ _ _ _ _ _ (25, [some (.ref 0), some (.int a1), some (.int a2)], [.ref 40], M23)
          refine pm_irun 1 (σ' := (26, [some (.ref 0), some (.int a1), some (.int a2)], [.int a2, .ref 40], M23)) rfl ?_
          refine pm_icI (as := [.ref 40, .int a2]) (rest := []) rfl rfl rfl rfl (Nat.le_of_ble_eq_true rfl) rfl (fun r h => pm_Ev_mono (Nat.le_of_ble_eq_true rfl) (sSheet_hasItem_40_ok a2 M23 r h)) (fun v26 M25 => ?_)
          show pm_Im _ _ _ _ _ _ (29, [some (.ref 0), some (.int a1), some (.int a2)], [.int v26], M25)
          refine pm_iite (σ1 := (36, [some (.ref 0), some (.int a1), some (.int a2)], [], M25)) (σ2 := (32, [some (.ref 0), some (.int a1), some (.int a2)], [], M25)) rfl (fun _ => ?_) (fun _ => ?_)
          · refine pm_irun 3 (σ' := (41, [some (.ref 0), some (.int a1), some (.int a2)], [.int a1, .ref 39], M25)) rfl ?_
            refine pm_iaal rfl ?_ ?_ ?_ ?_
            · show pm_Im _ _ _ _ _ _ (42, [some (.ref 0), some (.int a1), some (.int a2)], [.ref 40], M25)
              refine pm_irun 2 (σ' := (46, [some (.ref 0), some (.int a1), some (.int a2)], [.int a2, .ref 41], M25)) rfl ?_
              refine pm_igd (σ1 := (47, [some (.ref 0), some (.int a1), some (.int a2)], [.long (M25.2 41 a2.toNatClampNeg)], M25)) rfl (fun _ => ?_)
              exact pm_irL rfl rfl
            · show pm_Im _ _ _ _ _ _ (42, [some (.ref 0), some (.int a1), some (.int a2)], [.ref 42], M25)
              refine pm_irun 2 (σ' := (46, [some (.ref 0), some (.int a1), some (.int a2)], [.int a2, .ref 43], M25)) rfl ?_
              refine pm_igd (σ1 := (47, [some (.ref 0), some (.int a1), some (.int a2)], [.long (M25.2 43 a2.toNatClampNeg)], M25)) rfl (fun _ => ?_)
              exact pm_irL rfl rfl
            · show pm_Im _ _ _ _ _ _ (42, [some (.ref 0), some (.int a1), some (.int a2)], [.ref 44], M25)
              refine pm_irun 2 (σ' := (46, [some (.ref 0), some (.int a1), some (.int a2)], [.int a2, .ref 45], M25)) rfl ?_
              refine pm_igd (σ1 := (47, [some (.ref 0), some (.int a1), some (.int a2)], [.long (M25.2 45 a2.toNatClampNeg)], M25)) rfl (fun _ => ?_)
              exact pm_irL rfl rfl
            · show pm_Im _ _ _ _ _ _ (42, [some (.ref 0), some (.int a1), some (.int a2)], [.ref 46], M25)
              refine pm_irun 2 (σ' := (46, [some (.ref 0), some (.int a1), some (.int a2)], [.int a2, .ref 47], M25)) rfl ?_
              refine pm_igd (σ1 := (47, [some (.ref 0), some (.int a1), some (.int a2)], [.long (M25.2 47 a2.toNatClampNeg)], M25)) rfl (fun _ => ?_)
              exact pm_irL rfl rfl
          · refine pm_irun 1 (σ' := (35, [some (.ref 0), some (.int a1), some (.int a2)], [.long (-4611686018427387904 : Int64)], M25)) rfl ?_
            exact pm_irL rfl rfl
        · show pm_Im _ _ _ _ _ _ (25, [some (.ref 0), some (.int a1), some (.int a2)], [.ref 42], M23)
          refine pm_irun 1 (σ' := (26, [some (.ref 0), some (.int a1), some (.int a2)], [.int a2, .ref 42], M23)) rfl ?_
          refine pm_icI (as := [.ref 42, .int a2]) (rest := []) rfl rfl rfl rfl (Nat.le_of_ble_eq_true rfl) rfl (fun r h => pm_Ev_mono (Nat.le_of_ble_eq_true rfl) (sSheet_hasItem_42_ok a2 M23 r h)) (fun v28 M27 => ?_)
          show pm_Im _ _ _ _ _ _ (29, [some (.ref 0), some (.int a1), some (.int a2)], [.int v28], M27)
          refine pm_iite (σ1 := (36, [some (.ref 0), some (.int a1), some (.int a2)], [], M27)) (σ2 := (32, [some (.ref 0), some (.int a1), some (.int a2)], [], M27)) rfl (fun _ => ?_) (fun _ => ?_)
          · refine pm_irun 3 (σ' := (41, [some (.ref 0), some (.int a1), some (.int a2)], [.int a1, .ref 39], M27)) rfl ?_
            refine pm_iaal rfl ?_ ?_ ?_ ?_
            · show pm_Im _ _ _ _ _ _ (42, [some (.ref 0), some (.int a1), some (.int a2)], [.ref 40], M27)
              refine pm_irun 2 (σ' := (46, [some (.ref 0), some (.int a1), some (.int a2)], [.int a2, .ref 41], M27)) rfl ?_
              refine pm_igd (σ1 := (47, [some (.ref 0), some (.int a1), some (.int a2)], [.long (M27.2 41 a2.toNatClampNeg)], M27)) rfl (fun _ => ?_)
              exact pm_irL rfl rfl
            · show pm_Im _ _ _ _ _ _ (42, [some (.ref 0), some (.int a1), some (.int a2)], [.ref 42], M27)
              refine pm_irun 2 (σ' := (46, [some (.ref 0), some (.int a1), some (.int a2)], [.int a2, .ref 43], M27)) rfl ?_
              refine pm_igd (σ1 := (47, [some (.ref 0), some (.int a1), some (.int a2)], [.long (M27.2 43 a2.toNatClampNeg)], M27)) rfl (fun _ => ?_)
              exact pm_irL rfl rfl
            · show pm_Im _ _ _ _ _ _ (42, [some (.ref 0), some (.int a1), some (.int a2)], [.ref 44], M27)
              refine pm_irun 2 (σ' := (46, [some (.ref 0), some (.int a1), some (.int a2)], [.int a2, .ref 45], M27)) rfl ?_
              refine pm_igd (σ1 := (47, [some (.ref 0), some (.int a1), some (.int a2)], [.long (M27.2 45 a2.toNatClampNeg)], M27)) rfl (fun _ => ?_)
              exact pm_irL rfl rfl
            · show pm_Im _ _ _ _ _ _ (42, [some (.ref 0), some (.int a1), some (.int a2)], [.ref 46], M27)
              refine pm_irun 2 (σ' := (46, [some (.ref 0), some (.int a1), some (.int a2)], [.int a2, .ref 47], M27)) rfl ?_
              refine pm_igd (σ1 := (47, [some (.ref 0), some (.int a1), some (.int a2)], [.long (M27.2 47 a2.toNatClampNeg)], M27)) rfl (fun _ => ?_)
              exact pm_irL rfl rfl
          · refine pm_irun 1 (σ' := (35, [some (.ref 0), some (.int a1), some (.int a2)], [.long (-4611686018427387904 : Int64)], M27)) rfl ?_
            exact pm_irL rfl rfl
        · show pm_Im _ _ _ _ _ _ (25, [some (.ref 0), some (.int a1), some (.int a2)], [.ref 44], M23)
          refine pm_irun 1 (σ' := (26, [some (.ref 0), some (.int a1), some (.int a2)], [.int a2, .ref 44], M23)) rfl ?_
          refine pm_icI (as := [.ref 44, .int a2]) (rest := []) rfl rfl rfl rfl (Nat.le_of_ble_eq_true rfl) rfl (fun r h => pm_Ev_mono (Nat.le_of_ble_eq_true rfl) (sSheet_hasItem_44_ok a2 M23 r h)) (fun v30 M29 => ?_)
          show pm_Im _ _ _ _ _ _ (29, [some (.ref 0), some (.int a1), some (.int a2)], [.int v30], M29)
          refine pm_iite (σ1 := (36, [some (.ref 0), some (.int a1), some (.int a2)], [], M29)) (σ2 := (32, [some (.ref 0), some (.int a1), some (.int a2)], [], M29)) rfl (fun _ => ?_) (fun _ => ?_)
          · refine pm_irun 3 (σ' := (41, [some (.ref 0), some (.int a1), some (.int a2)], [.int a1, .ref 39], M29)) rfl ?_
            refine pm_iaal rfl ?_ ?_ ?_ ?_
            · show pm_Im _ _ _ _ _ _ (42, [some (.ref 0), some (.int a1), some (.int a2)], [.ref 40], M29)
              refine pm_irun 2 (σ' := (46, [some (.ref 0), some (.int a1), some (.int a2)], [.int a2, .ref 41], M29)) rfl ?_
              refine pm_igd (σ1 := (47, [some (.ref 0), some (.int a1), some (.int a2)], [.long (M29.2 41 a2.toNatClampNeg)], M29)) rfl (fun _ => ?_)
              exact pm_irL rfl rfl
            · show pm_Im _ _ _ _ _ _ (42, [some (.ref 0), some (.int a1), some (.int a2)], [.ref 42], M29)
              refine pm_irun 2 (σ' := (46, [some (.ref 0), some (.int a1), some (.int a2)], [.int a2, .ref 43], M29)) rfl ?_
              refine pm_igd (σ1 := (47, [some (.ref 0), some (.int a1), some (.int a2)], [.long (M29.2 43 a2.toNatClampNeg)], M29)) rfl (fun _ => ?_)
              exact pm_irL rfl rfl
            · show pm_Im _ _ _ _ _ _ (42, [some (.ref 0), some (.int a1), some (.int a2)], [.ref 44], M29)
              refine pm_irun 2 (σ' := (46, [some (.ref 0), some (.int a1), some (.int a2)], [.int a2, .ref 45], M29)) rfl ?_
              refine pm_igd (σ1 := (47, [some (.ref 0), some (.int a1), some (.int a2)], [.long (M29.2 45 a2.toNatClampNeg)], M29)) rfl (fun _ => ?_)
              exact pm_irL rfl rfl
            · show pm_Im _ _ _ _ _ _ (42, [some (.ref 0), some (.int a1), some (.int a2)], [.ref 46], M29)
              refine pm_irun 2 (σ' := (46, [some (.ref 0), some (.int a1), some (.int a2)], [.int a2, .ref 47], M29)) rfl ?_
              refine pm_igd (σ1 := (47, [some (.ref 0), some (.int a1), some (.int a2)], [.long (M29.2 47 a2.toNatClampNeg)], M29)) rfl (fun _ => ?_)
              exact pm_irL rfl rfl
          · refine pm_irun 1 (σ' := (35, [some (.ref 0), some (.int a1), some (.int a2)], [.long (-4611686018427387904 : Int64)], M29)) rfl ?_
            exact pm_irL rfl rfl
        · show pm_Im _ _ _ _ _ _ (25, [some (.ref 0), some (.int a1), some (.int a2)], [.ref 46], M23)
          refine pm_irun 1 (σ' := (26, [some (.ref 0), some (.int a1), some (.int a2)], [.int a2, .ref 46], M23)) rfl ?_
          refine pm_icI (as := [.ref 46, .int a2]) (rest := []) rfl rfl rfl rfl (Nat.le_of_ble_eq_true rfl) rfl (fun r h => pm_Ev_mono (Nat.le_of_ble_eq_true rfl) (sSheet_hasItem_46_ok a2 M23 r h)) (fun v32 M31 => ?_)
          show pm_Im _ _ _ _ _ _ (29, [some (.ref 0), some (.int a1), some (.int a2)], [.int v32], M31)
          refine pm_iite (σ1 := (36, [some (.ref 0), some (.int a1), some (.int a2)], [], M31)) (σ2 := (32, [some (.ref 0), some (.int a1), some (.int a2)], [], M31)) rfl (fun _ => ?_) (fun _ => ?_)
          · refine pm_irun 3 (σ' := (41, [some (.ref 0), some (.int a1), some (.int a2)], [.int a1, .ref 39], M31)) rfl ?_
            refine pm_iaal rfl ?_ ?_ ?_ ?_
            · show pm_Im _ _ _ _ _ _ (42, [some (.ref 0), some (.int a1), some (.int a2)], [.ref 40], M31)
              refine pm_irun 2 (σ' := (46, [some (.ref 0), some (.int a1), some (.int a2)], [.int a2, .ref 41], M31)) rfl ?_
              refine pm_igd (σ1 := (47, [some (.ref 0), some (.int a1), some (.int a2)], [.long (M31.2 41 a2.toNatClampNeg)], M31)) rfl (fun _ => ?_)
              exact pm_irL rfl rfl
            · show pm_Im _ _ _ _ _ _ (42, [some (.ref 0), some (.int a1), some (.int a2)], [.ref 42], M31)
              refine pm_irun 2 (σ' := (46, [some (.ref 0), some (.int a1), some (.int a2)], [.int a2, .ref 43], M31)) rfl ?_
              refine pm_igd (σ1 := (47, [some (.ref 0), some (.int a1), some (.int a2)], [.long (M31.2 43 a2.toNatClampNeg)], M31)) rfl (fun _ => ?_)
              exact pm_irL rfl rfl
            · show pm_Im _ _ _ _ _ _ (42, [some (.ref 0), some (.int a1), some (.int a2)], [.ref 44], M31)
              refine pm_irun 2 (σ' := (46, [some (.ref 0), some (.int a1), some (.int a2)], [.int a2, .ref 45], M31)) rfl ?_
              refine pm_igd (σ1 := (47, [some (.ref 0), some (.int a1), some (.int a2)], [.long (M31.2 45 a2.toNatClampNeg)], M31)) rfl (fun _ => ?_)
              exact pm_irL rfl rfl
            · show pm_Im _ _ _ _ _ _ (42, [some (.ref 0), some (.int a1), some (.int a2)], [.ref 46], M31)
              refine pm_irun 2 (σ' := (46, [some (.ref 0), some (.int a1), some (.int a2)], [.int a2, .ref 47], M31)) rfl ?_
              refine pm_igd (σ1 := (47, [some (.ref 0), some (.int a1), some (.int a2)], [.long (M31.2 47 a2.toNatClampNeg)], M31)) rfl (fun _ => ?_)
              exact pm_irL rfl rfl
          · refine pm_irun 1 (σ' := (35, [some (.ref 0), some (.int a1), some (.int a2)], [.long (-4611686018427387904 : Int64)], M31)) rfl ?_
            exact pm_irL rfl rfl
    · show pm_Im _ _ _ _ _ _ (13, [some (.ref 0), some (.int a1), some (.int a2)], [.ref 46], M1)
      refine pm_icI (as := [.ref 46]) (rest := []) rfl rfl rfl rfl (Nat.le_of_ble_eq_true rfl) rfl (fun r h => pm_Ev_mono (Nat.le_of_ble_eq_true rfl) (sSheet_isMissing_46_ok M1 r h)) (fun v34 M33 => ?_)
      show pm_Im _ _ _ _ _ _ (16, [some (.ref 0), some (.int a1), some (.int a2)], [.int v34], M33)
      refine pm_iite (σ1 := (32, [some (.ref 0), some (.int a1), some (.int a2)], [], M33)) (σ2 := (19, [some (.ref 0), some (.int a1), some (.int a2)], [], M33)) rfl (fun _ => ?_) (fun _ => ?_)
      · refine pm_irun 1 (σ' := (35, [some (.ref 0), some (.int a1), some (.int a2)], [.long (-4611686018427387904 : Int64)], M33)) rfl ?_
        exact pm_irL rfl rfl
      · refine pm_irun 3 (σ' := (24, [some (.ref 0), some (.int a1), some (.int a2)], [.int a1, .ref 39], M33)) rfl ?_
        refine pm_iaal rfl ?_ ?_ ?_ ?_
        · show pm_Im _ _ _ _ _ _ (25, [some (.ref 0), some (.int a1), some (.int a2)], [.ref 40], M33)
          refine pm_irun 1 (σ' := (26, [some (.ref 0), some (.int a1), some (.int a2)], [.int a2, .ref 40], M33)) rfl ?_
          refine pm_icI (as := [.ref 40, .int a2]) (rest := []) rfl rfl rfl rfl (Nat.le_of_ble_eq_true rfl) rfl (fun r h => pm_Ev_mono (Nat.le_of_ble_eq_true rfl) (sSheet_hasItem_40_ok a2 M33 r h)) (fun v36 M35 => ?_)
          show pm_Im _ _ _ _ _ _ (29, [some (.ref 0), some (.int a1), some (.int a2)], [.int v36], M35)
          refine pm_iite (σ1 := (36, [some (.ref 0), some (.int a1), some (.int a2)], [], M35)) (σ2 := (32, [some (.ref 0), some (.int a1), some (.int a2)], [], M35)) rfl (fun _ => ?_) (fun _ => ?_)
          · refine pm_irun 3 (σ' := (41, [some (.ref 0), some (.int a1), some (.int a2)], [.int a1, .ref 39], M35)) rfl ?_
            refine pm_iaal rfl ?_ ?_ ?_ ?_
            · show pm_Im _ _ _ _ _ _ (42, [some (.ref 0), some (.int a1), some (.int a2)], [.ref 40], M35)
              refine pm_irun 2 (σ' := (46, [some (.ref 0), some (.int a1), some (.int a2)], [.int a2, .ref 41], M35)) rfl ?_
              refine pm_igd (σ1 := (47, [some (.ref 0), some (.int a1), some (.int a2)], [.long (M35.2 41 a2.toNatClampNeg)], M35)) rfl (fun _ => ?_)
              exact pm_irL rfl rfl
            · show pm_Im _ _ _ _ _ _ (42, [some (.ref 0), some (.int a1), some (.int a2)], [.ref 42], M35)
              refine pm_irun 2 (σ' := (46, [some (.ref 0), some (.int a1), some (.int a2)], [.int a2, .ref 43], M35)) rfl ?_
              refine pm_igd (σ1 := (47, [some (.ref 0), some (.int a1), some (.int a2)], [.long (M35.2 43 a2.toNatClampNeg)], M35)) rfl (fun _ => ?_)
              exact pm_irL rfl rfl
            · show pm_Im _ _ _ _ _ _ (42, [some (.ref 0), some (.int a1), some (.int a2)], [.ref 44], M35)
              refine pm_irun 2 (σ' := (46, [some (.ref 0), some (.int a1), some (.int a2)], [.int a2, .ref 45], M35)) rfl ?_
              refine pm_igd (σ1 := (47, [some (.ref 0), some (.int a1), some (.int a2)], [.long (M35.2 45 a2.toNatClampNeg)], M35)) rfl (fun _ => ?_)
              exact pm_irL rfl rfl
            · show pm_Im _ _ _ _ _ _ (42, [some (.ref 0), some (.int a1), some (.int a2)], [.ref 46], M35)
              refine pm_irun 2 (σ' := (46, [some (.ref 0), some (.int a1), some (.int a2)], [.int a2, .ref 47], M35)) rfl ?_
              refine pm_igd (σ1 := (47, [some (.ref 0), some (.int a1), some (.int a2)], [.long (M35.2 47 a2.toNatClampNeg)], M35)) rfl (fun _ => ?_)
              exact pm_irL rfl rfl
          · refine pm_irun 1 (σ' := (35, [some (.ref 0), some (.int a1), some (.int a2)], [.long (-4611686018427387904 : Int64)], M35)) rfl ?_
            exact pm_irL rfl rfl
        · show pm_Im _ _ _ _ _ _ (25, [some (.ref 0), some (.int a1), some (.int a2)], [.ref 42], M33)
          refine pm_irun 1 (σ' := (26, [some (.ref 0), some (.int a1), some (.int a2)], [.int a2, .ref 42], M33)) rfl ?_
          refine pm_icI (as := [.ref 42, .int a2]) (rest := []) rfl rfl rfl rfl (Nat.le_of_ble_eq_true rfl) rfl (fun r h => pm_Ev_mono (Nat.le_of_ble_eq_true rfl) (sSheet_hasItem_42_ok a2 M33 r h)) (fun v38 M37 => ?_)
          show pm_Im _ _ _ _ _ _ (29, [some (.ref 0), some (.int a1), some (.int a2)], [.int v38], M37)
          refine pm_iite (σ1 := (36, [some (.ref 0), some (.int a1), some (.int a2)], [], M37)) (σ2 := (32, [some (.ref 0), some (.int a1), some (.int a2)], [], M37)) rfl (fun _ => ?_) (fun _ => ?_)
          · refine pm_irun 3 (σ' := (41, [some (.ref 0), some (.int a1), some (.int a2)], [.int a1, .ref 39], M37)) rfl ?_
            refine pm_iaal rfl ?_ ?_ ?_ ?_
            · show pm_Im _ _ _ _ _ _ (42, [some (.ref 0), some (.int a1), some (.int a2)], [.ref 40], M37)
              refine pm_irun 2 (σ' := (46, [some (.ref 0), some (.int a1), some (.int a2)], [.int a2, .ref 41], M37)) rfl ?_
              refine pm_igd (σ1 := (47, [some (.ref 0), some (.int a1), some (.int a2)], [.long (M37.2 41 a2.toNatClampNeg)], M37)) rfl (fun _ => ?_)
              exact pm_irL rfl rfl
            · show pm_Im _ _ _ _ _ _ (42, [some (.ref 0), some (.int a1), some (.int a2)], [.ref 42], M37)
              refine pm_irun 2 (σ' := (46, [some (.ref 0), some (.int a1), some (.int a2)], [.int a2, .ref 43], M37)) rfl ?_
              refine pm_igd (σ1 := (47, [some (.ref 0), some (.int a1), some (.int a2)], [.long (M37.2 43 a2.toNatClampNeg)], M37)) rfl (fun _ => ?_)
              exact pm_irL rfl rfl
            · show pm_Im _ _ _ _ _ _ (42, [some (.ref 0), some (.int a1), some (.int a2)], [.ref 44], M37)
              refine pm_irun 2 (σ' := (46, [some (.ref 0), some (.int a1), some (.int a2)], [.int a2, .ref 45], M37)) rfl ?_
              refine pm_igd (σ1 := (47, [some (.ref 0), some (.int a1), some (.int a2)], [.long (M37.2 45 a2.toNatClampNeg)], M37)) rfl (fun _ => ?_)
              exact pm_irL rfl rfl
            · show pm_Im _ _ _ _ _ _ (42, [some (.ref 0), some (.int a1), some (.int a2)], [.ref 46], M37)
              refine pm_irun 2 (σ' := (46, [some (.ref 0), some (.int a1), some (.int a2)], [.int a2, .ref 47], M37)) rfl ?_
              refine pm_igd (σ1 := (47, [some (.ref 0), some (.int a1), some (.int a2)], [.long (M37.2 47 a2.toNatClampNeg)], M37)) rfl (fun _ => ?_)
              exact pm_irL rfl rfl
          · refine pm_irun 1 (σ' := (35, [some (.ref 0), some (.int a1), some (.int a2)], [.long (-4611686018427387904 : Int64)], M37)) rfl ?_
            exact pm_irL rfl rfl
        · show pm_Im _ _ _ _ _ _ (25, [some (.ref 0), some (.int a1), some (.int a2)], [.ref 44], M33)
          refine pm_irun 1 (σ' := (26, [some (.ref 0), some (.int a1), some (.int a2)], [.int a2, .ref 44], M33)) rfl ?_
          refine pm_icI (as := [.ref 44, .int a2]) (rest := []) rfl rfl rfl rfl (Nat.le_of_ble_eq_true rfl) rfl (fun r h => pm_Ev_mono (Nat.le_of_ble_eq_true rfl) (sSheet_hasItem_44_ok a2 M33 r h)) (fun v40 M39 => ?_)
          show pm_Im _ _ _ _ _ _ (29, [some (.ref 0), some (.int a1), some (.int a2)], [.int v40], M39)
          refine pm_iite (σ1 := (36, [some (.ref 0), some (.int a1), some (.int a2)], [], M39)) (σ2 := (32, [some (.ref 0), some (.int a1), some (.int a2)], [], M39)) rfl (fun _ => ?_) (fun _ => ?_)
          · refine pm_irun 3 (σ' := (41, [some (.ref 0), some (.int a1), some (.int a2)], [.int a1, .ref 39], M39)) rfl ?_
            refine pm_iaal rfl ?_ ?_ ?_ ?_
            · show pm_Im _ _ _ _ _ _ (42, [some (.ref 0), some (.int a1), some (.int a2)], [.ref 40], M39)
              refine pm_irun 2 (σ' := (46, [some (.ref 0), some (.int a1), some (.int a2)], [.int a2, .ref 41], M39)) rfl ?_
              refine pm_igd (σ1 := (47, [some (.ref 0), some (.int a1), some (.int a2)], [.long (M39.2 41 a2.toNatClampNeg)], M39)) rfl (fun _ => ?_)
              exact pm_irL rfl rfl
            · show pm_Im _ _ _ _ _ _ (42, [some (.ref 0), some (.int a1), some (.int a2)], [.ref 42], M39)
              refine pm_irun 2 (σ' := (46, [some (.ref 0), some (.int a1), some (.int a2)], [.int a2, .ref 43], M39)) rfl ?_
              refine pm_igd (σ1 := (47, [some (.ref 0), some (.int a1), some (.int a2)], [.long (M39.2 43 a2.toNatClampNeg)], M39)) rfl (fun _ => ?_)
              exact pm_irL rfl rfl
            · show pm_Im _ _ _ _ _ _ (42, [some (.ref 0), some (.int a1), some (.int a2)], [.ref 44], M39)
              refine pm_irun 2 (σ' := (46, [some (.ref 0), some (.int a1), some (.int a2)], [.int a2, .ref 45], M39)) rfl ?_
              refine pm_igd (σ1 := (47, [some (.ref 0), some (.int a1), some (.int a2)], [.long (M39.2 45 a2.toNatClampNeg)], M39)) rfl (fun _ => ?_)
              exact pm_irL rfl rfl
            · show pm_Im _ _ _ _ _ _ (42, [some (.ref 0), some (.int a1), some (.int a2)], [.ref 46], M39)
              refine pm_irun 2 (σ' := (46, [some (.ref 0), some (.int a1), some (.int a2)], [.int a2, .ref 47], M39)) rfl ?_
              refine pm_igd (σ1 := (47, [some (.ref 0), some (.int a1), some (.int a2)], [.long (M39.2 47 a2.toNatClampNeg)], M39)) rfl (fun _ => ?_)
              exact pm_irL rfl rfl
          · refine pm_irun 1 (σ' := (35, [some (.ref 0), some (.int a1), some (.int a2)], [.long (-4611686018427387904 : Int64)], M39)) rfl ?_
            exact pm_irL rfl rfl
        · show pm_Im _ _ _ _ _ _ (25, [some (.ref 0), some (.int a1), some (.int a2)], [.ref 46], M33)
          refine pm_irun 1 (σ' := (26, [some (.ref 0), some (.int a1), some (.int a2)], [.int a2, .ref 46], M33)) rfl ?_
          refine pm_icI (as := [.ref 46, .int a2]) (rest := []) rfl rfl rfl rfl (Nat.le_of_ble_eq_true rfl) rfl (fun r h => pm_Ev_mono (Nat.le_of_ble_eq_true rfl) (sSheet_hasItem_46_ok a2 M33 r h)) (fun v42 M41 => ?_)
          show pm_Im _ _ _ _ _ _ (29, [some (.ref 0), some (.int a1), some (.int a2)], [.int v42], M41)
          refine pm_iite (σ1 := (36, [some (.ref 0), some (.int a1), some (.int a2)], [], M41)) (σ2 := (32, [some (.ref 0), some (.int a1), some (.int a2)], [], M41)) rfl (fun _ => ?_) (fun _ => ?_)
          · refine pm_irun 3 (σ' := (41, [some (.ref 0), some (.int a1), some (.int a2)], [.int a1, .ref 39], M41)) rfl ?_
            refine pm_iaal rfl ?_ ?_ ?_ ?_
            · show pm_Im _ _ _ _ _ _ (42, [some (.ref 0), some (.int a1), some (.int a2)], [.ref 40], M41)
              refine pm_irun 2 (σ' := (46, [some (.ref 0), some (.int a1), some (.int a2)], [.int a2, .ref 41], M41)) rfl ?_
              refine pm_igd (σ1 := (47, [some (.ref 0), some (.int a1), some (.int a2)], [.long (M41.2 41 a2.toNatClampNeg)], M41)) rfl (fun _ => ?_)
              exact pm_irL rfl rfl
            · show pm_Im _ _ _ _ _ _ (42, [some (.ref 0), some (.int a1), some (.int a2)], [.ref 42], M41)
              refine pm_irun 2 (σ' := (46, [some (.ref 0), some (.int a1), some (.int a2)], [.int a2, .ref 43], M41)) rfl ?_
              refine pm_igd (σ1 := (47, [some (.ref 0), some (.int a1), some (.int a2)], [.long (M41.2 43 a2.toNatClampNeg)], M41)) rfl (fun _ => ?_)
              exact pm_irL rfl rfl
            · show pm_Im _ _ _ _ _ _ (42, [some (.ref 0), some (.int a1), some (.int a2)], [.ref 44], M41)
              refine pm_irun 2 (σ' := (46, [some (.ref 0), some (.int a1), some (.int a2)], [.int a2, .ref 45], M41)) rfl ?_
              refine pm_igd (σ1 := (47, [some (.ref 0), some (.int a1), some (.int a2)], [.long (M41.2 45 a2.toNatClampNeg)], M41)) rfl (fun _ => ?_)
              exact pm_irL rfl rfl
            · show pm_Im _ _ _ _ _ _ (42, [some (.ref 0), some (.int a1), some (.int a2)], [.ref 46], M41)
              refine pm_irun 2 (σ' := (46, [some (.ref 0), some (.int a1), some (.int a2)], [.int a2, .ref 47], M41)) rfl ?_
              refine pm_igd (σ1 := (47, [some (.ref 0), some (.int a1), some (.int a2)], [.long (M41.2 47 a2.toNatClampNeg)], M41)) rfl (fun _ => ?_)
              exact pm_irL rfl rfl
          · refine pm_irun 1 (σ' := (35, [some (.ref 0), some (.int a1), some (.int a2)], [.long (-4611686018427387904 : Int64)], M41)) rfl ?_
            exact pm_irL rfl rfl
def sR_item (a1 : Int32) (a2 : Int32) (M : pm_M) : Option (Int64 × pm_M) := pm_bd (sR_isSheet a1 M) fun v2 M1 => if v2 = 0 then (some ((-4611686018427387904 : Int64), M1)) else (if pm_in a1 4 then (if (M1.1 78 a1.toNatClampNeg) = (-1 : Int32) then (some ((-4611686018427387904 : Int64), M1)) else (if pm_in a1 4 then (pm_bd (sR_in (a2.toInt64) (0 : Int64) ((M1.1 79 a1.toNatClampNeg) - (1 : Int32)).toInt64 M1) fun v4 M3 => if v4 = 0 then (some ((-4611686018427387904 : Int64), M3)) else (if pm_in (((40 : Int32) * a1) + a2) 160 then (some ((M3.2 80 (((40 : Int32) * a1) + a2).toNatClampNeg), M3)) else none)) else none)) else none)
abbrev I_R_item (sh : Option (Int64 × pm_M)) (σ : pm_St) : Prop := pm_Im none (pm_Ev 2) pm_T202 (some .long) pm_rL sh σ
set_option maxHeartbeats 4000000 in
set_option maxRecDepth 100000 in
theorem sR_item_ok (a1 : Int32) (a2 : Int32) (M : pm_M) : ∀ r, sR_item a1 a2 M = some r → pm_Ev 3 202 [.ref 49, .int a1, .int a2] M (pm_rL r).1 (pm_rL r).2 := by
  refine pm_meth (al := [some (.ref 49), some (.int a1), some (.int a2)]) rfl rfl rfl rfl rfl ?_
  unfold sR_item
  show I_R_item _ (0, [some (.ref 49), some (.int a1), some (.int a2)], [], M)
  refine pm_irun 1 (σ' := (1, [some (.ref 49), some (.int a1), some (.int a2)], [.int a1], M)) rfl ?_
  refine pm_icI (as := [.int a1]) (rest := []) rfl rfl rfl rfl (Nat.le_of_ble_eq_true rfl) rfl (fun r h => pm_Ev_mono (Nat.le_of_ble_eq_true rfl) (sR_isSheet_ok a1 M r h)) (fun v2 M1 => ?_)
  show pm_Im _ _ _ _ _ _ (4, [some (.ref 49), some (.int a1), some (.int a2)], [.int v2], M1)
  refine pm_iite (σ1 := (49, [some (.ref 49), some (.int a1), some (.int a2)], [], M1)) (σ2 := (7, [some (.ref 49), some (.int a1), some (.int a2)], [], M1)) rfl (fun _ => ?_) (fun _ => ?_)
  · refine pm_irun 1 (σ' := (52, [some (.ref 49), some (.int a1), some (.int a2)], [.long (-4611686018427387904 : Int64)], M1)) rfl ?_
    exact pm_irL rfl rfl
  · refine pm_irun 3 (σ' := (12, [some (.ref 49), some (.int a1), some (.int a2)], [.int a1, .ref 78], M1)) rfl ?_
    refine pm_igd (σ1 := (13, [some (.ref 49), some (.int a1), some (.int a2)], [.int (M1.1 78 a1.toNatClampNeg)], M1)) rfl (fun _ => ?_)
    refine pm_irun 1 (σ' := (14, [some (.ref 49), some (.int a1), some (.int a2)], [.int (-1 : Int32), .int (M1.1 78 a1.toNatClampNeg)], M1)) rfl ?_
    refine pm_iite (σ1 := (49, [some (.ref 49), some (.int a1), some (.int a2)], [], M1)) (σ2 := (17, [some (.ref 49), some (.int a1), some (.int a2)], [], M1)) rfl (fun _ => ?_) (fun _ => ?_)
    · refine pm_irun 1 (σ' := (52, [some (.ref 49), some (.int a1), some (.int a2)], [.long (-4611686018427387904 : Int64)], M1)) rfl ?_
      exact pm_irL rfl rfl
    · refine pm_irun 6 (σ' := (25, [some (.ref 49), some (.int a1), some (.int a2)], [.int a1, .ref 79, .long (0 : Int64), .long a2.toInt64], M1)) rfl ?_
      refine pm_igd (σ1 := (26, [some (.ref 49), some (.int a1), some (.int a2)], [.int (M1.1 79 a1.toNatClampNeg), .long (0 : Int64), .long a2.toInt64], M1)) rfl (fun _ => ?_)
      refine pm_irun 3 (σ' := (29, [some (.ref 49), some (.int a1), some (.int a2)], [.long ((M1.1 79 a1.toNatClampNeg) - (1 : Int32)).toInt64, .long (0 : Int64), .long a2.toInt64], M1)) rfl ?_
      refine pm_icI (as := [.long a2.toInt64, .long (0 : Int64), .long ((M1.1 79 a1.toNatClampNeg) - (1 : Int32)).toInt64]) (rest := []) rfl rfl rfl rfl (Nat.le_of_ble_eq_true rfl) rfl (fun r h => pm_Ev_mono (Nat.le_of_ble_eq_true rfl) (sR_in_ok (a2.toInt64) (0 : Int64) ((M1.1 79 a1.toNatClampNeg) - (1 : Int32)).toInt64 M1 r h)) (fun v4 M3 => ?_)
      show pm_Im _ _ _ _ _ _ (32, [some (.ref 49), some (.int a1), some (.int a2)], [.int v4], M3)
      refine pm_iite (σ1 := (49, [some (.ref 49), some (.int a1), some (.int a2)], [], M3)) (σ2 := (35, [some (.ref 49), some (.int a1), some (.int a2)], [], M3)) rfl (fun _ => ?_) (fun _ => ?_)
      · refine pm_irun 1 (σ' := (52, [some (.ref 49), some (.int a1), some (.int a2)], [.long (-4611686018427387904 : Int64)], M3)) rfl ?_
        exact pm_irL rfl rfl
      · refine pm_irun 7 (σ' := (45, [some (.ref 49), some (.int a1), some (.int a2)], [.int (((40 : Int32) * a1) + a2), .ref 80], M3)) rfl ?_
        refine pm_igd (σ1 := (46, [some (.ref 49), some (.int a1), some (.int a2)], [.long (M3.2 80 (((40 : Int32) * a1) + a2).toNatClampNeg)], M3)) rfl (fun _ => ?_)
        refine pm_irun 1 (σ' := (52, [some (.ref 49), some (.int a1), some (.int a2)], [.long (M3.2 80 (((40 : Int32) * a1) + a2).toNatClampNeg)], M3)) rfl ?_
        exact pm_irL rfl rfl
def sSheet_hasRun_40 (a1 : Int32) (a2 : Int32) (M : pm_M) : Option (Int32 × pm_M) := if a1 < 0 then (some ((0 : Int32), M)) else (if a2 < 0 then (some ((0 : Int32), M)) else (if ((M.1 40 1) - a2) < a1 then (some ((0 : Int32), M)) else (some ((1 : Int32), M))))
abbrev I_Sheet_hasRun_40 (sh : Option (Int32 × pm_M)) (σ : pm_St) : Prop := pm_Im none (pm_Ev 0) pm_T11 (some .boolean) pm_rI sh σ
set_option maxHeartbeats 4000000 in
set_option maxRecDepth 100000 in
theorem sSheet_hasRun_40_ok (a1 : Int32) (a2 : Int32) (M : pm_M) : ∀ r, sSheet_hasRun_40 a1 a2 M = some r → pm_Ev 1 11 [.ref 40, .int a1, .int a2] M (pm_rI r).1 (pm_rI r).2 := by
  refine pm_meth (al := [some (.ref 40), some (.int a1), some (.int a2)]) rfl rfl rfl rfl rfl ?_
  unfold sSheet_hasRun_40
  show I_Sheet_hasRun_40 _ (0, [some (.ref 40), some (.int a1), some (.int a2)], [], M)
  refine pm_irun 1 (σ' := (1, [some (.ref 40), some (.int a1), some (.int a2)], [.int a1], M)) rfl ?_
  refine pm_iite (σ1 := (22, [some (.ref 40), some (.int a1), some (.int a2)], [], M)) (σ2 := (4, [some (.ref 40), some (.int a1), some (.int a2)], [], M)) rfl (fun _ => ?_) (fun _ => ?_)
  · refine pm_irun 1 (σ' := (23, [some (.ref 40), some (.int a1), some (.int a2)], [.int (0 : Int32)], M)) rfl ?_
    exact pm_irZ (Or.inl rfl) rfl rfl
  · refine pm_irun 1 (σ' := (5, [some (.ref 40), some (.int a1), some (.int a2)], [.int a2], M)) rfl ?_
    refine pm_iite (σ1 := (22, [some (.ref 40), some (.int a1), some (.int a2)], [], M)) (σ2 := (8, [some (.ref 40), some (.int a1), some (.int a2)], [], M)) rfl (fun _ => ?_) (fun _ => ?_)
    · refine pm_irun 1 (σ' := (23, [some (.ref 40), some (.int a1), some (.int a2)], [.int (0 : Int32)], M)) rfl ?_
      exact pm_irZ (Or.inl rfl) rfl rfl
    · refine pm_irun 5 (σ' := (15, [some (.ref 40), some (.int a1), some (.int a2)], [.int ((M.1 40 1) - a2), .int a1], M)) rfl ?_
      refine pm_iite (σ1 := (22, [some (.ref 40), some (.int a1), some (.int a2)], [], M)) (σ2 := (18, [some (.ref 40), some (.int a1), some (.int a2)], [], M)) rfl (fun _ => ?_) (fun _ => ?_)
      · refine pm_irun 1 (σ' := (23, [some (.ref 40), some (.int a1), some (.int a2)], [.int (0 : Int32)], M)) rfl ?_
        exact pm_irZ (Or.inl rfl) rfl rfl
      · refine pm_irun 2 (σ' := (23, [some (.ref 40), some (.int a1), some (.int a2)], [.int (1 : Int32)], M)) rfl ?_
        exact pm_irZ (Or.inr rfl) rfl rfl
def sSheet_hasRun_42 (a1 : Int32) (a2 : Int32) (M : pm_M) : Option (Int32 × pm_M) := if a1 < 0 then (some ((0 : Int32), M)) else (if a2 < 0 then (some ((0 : Int32), M)) else (if ((M.1 42 1) - a2) < a1 then (some ((0 : Int32), M)) else (some ((1 : Int32), M))))
abbrev I_Sheet_hasRun_42 (sh : Option (Int32 × pm_M)) (σ : pm_St) : Prop := pm_Im none (pm_Ev 0) pm_T11 (some .boolean) pm_rI sh σ
set_option maxHeartbeats 4000000 in
set_option maxRecDepth 100000 in
theorem sSheet_hasRun_42_ok (a1 : Int32) (a2 : Int32) (M : pm_M) : ∀ r, sSheet_hasRun_42 a1 a2 M = some r → pm_Ev 1 11 [.ref 42, .int a1, .int a2] M (pm_rI r).1 (pm_rI r).2 := by
  refine pm_meth (al := [some (.ref 42), some (.int a1), some (.int a2)]) rfl rfl rfl rfl rfl ?_
  unfold sSheet_hasRun_42
  show I_Sheet_hasRun_42 _ (0, [some (.ref 42), some (.int a1), some (.int a2)], [], M)
  refine pm_irun 1 (σ' := (1, [some (.ref 42), some (.int a1), some (.int a2)], [.int a1], M)) rfl ?_
  refine pm_iite (σ1 := (22, [some (.ref 42), some (.int a1), some (.int a2)], [], M)) (σ2 := (4, [some (.ref 42), some (.int a1), some (.int a2)], [], M)) rfl (fun _ => ?_) (fun _ => ?_)
  · refine pm_irun 1 (σ' := (23, [some (.ref 42), some (.int a1), some (.int a2)], [.int (0 : Int32)], M)) rfl ?_
    exact pm_irZ (Or.inl rfl) rfl rfl
  · refine pm_irun 1 (σ' := (5, [some (.ref 42), some (.int a1), some (.int a2)], [.int a2], M)) rfl ?_
    refine pm_iite (σ1 := (22, [some (.ref 42), some (.int a1), some (.int a2)], [], M)) (σ2 := (8, [some (.ref 42), some (.int a1), some (.int a2)], [], M)) rfl (fun _ => ?_) (fun _ => ?_)
    · refine pm_irun 1 (σ' := (23, [some (.ref 42), some (.int a1), some (.int a2)], [.int (0 : Int32)], M)) rfl ?_
      exact pm_irZ (Or.inl rfl) rfl rfl
    · refine pm_irun 5 (σ' := (15, [some (.ref 42), some (.int a1), some (.int a2)], [.int ((M.1 42 1) - a2), .int a1], M)) rfl ?_
      refine pm_iite (σ1 := (22, [some (.ref 42), some (.int a1), some (.int a2)], [], M)) (σ2 := (18, [some (.ref 42), some (.int a1), some (.int a2)], [], M)) rfl (fun _ => ?_) (fun _ => ?_)
      · refine pm_irun 1 (σ' := (23, [some (.ref 42), some (.int a1), some (.int a2)], [.int (0 : Int32)], M)) rfl ?_
        exact pm_irZ (Or.inl rfl) rfl rfl
      · refine pm_irun 2 (σ' := (23, [some (.ref 42), some (.int a1), some (.int a2)], [.int (1 : Int32)], M)) rfl ?_
        exact pm_irZ (Or.inr rfl) rfl rfl
def sSheet_hasRun_44 (a1 : Int32) (a2 : Int32) (M : pm_M) : Option (Int32 × pm_M) := if a1 < 0 then (some ((0 : Int32), M)) else (if a2 < 0 then (some ((0 : Int32), M)) else (if ((M.1 44 1) - a2) < a1 then (some ((0 : Int32), M)) else (some ((1 : Int32), M))))
abbrev I_Sheet_hasRun_44 (sh : Option (Int32 × pm_M)) (σ : pm_St) : Prop := pm_Im none (pm_Ev 0) pm_T11 (some .boolean) pm_rI sh σ
set_option maxHeartbeats 4000000 in
set_option maxRecDepth 100000 in
theorem sSheet_hasRun_44_ok (a1 : Int32) (a2 : Int32) (M : pm_M) : ∀ r, sSheet_hasRun_44 a1 a2 M = some r → pm_Ev 1 11 [.ref 44, .int a1, .int a2] M (pm_rI r).1 (pm_rI r).2 := by
  refine pm_meth (al := [some (.ref 44), some (.int a1), some (.int a2)]) rfl rfl rfl rfl rfl ?_
  unfold sSheet_hasRun_44
  show I_Sheet_hasRun_44 _ (0, [some (.ref 44), some (.int a1), some (.int a2)], [], M)
  refine pm_irun 1 (σ' := (1, [some (.ref 44), some (.int a1), some (.int a2)], [.int a1], M)) rfl ?_
  refine pm_iite (σ1 := (22, [some (.ref 44), some (.int a1), some (.int a2)], [], M)) (σ2 := (4, [some (.ref 44), some (.int a1), some (.int a2)], [], M)) rfl (fun _ => ?_) (fun _ => ?_)
  · refine pm_irun 1 (σ' := (23, [some (.ref 44), some (.int a1), some (.int a2)], [.int (0 : Int32)], M)) rfl ?_
    exact pm_irZ (Or.inl rfl) rfl rfl
  · refine pm_irun 1 (σ' := (5, [some (.ref 44), some (.int a1), some (.int a2)], [.int a2], M)) rfl ?_
    refine pm_iite (σ1 := (22, [some (.ref 44), some (.int a1), some (.int a2)], [], M)) (σ2 := (8, [some (.ref 44), some (.int a1), some (.int a2)], [], M)) rfl (fun _ => ?_) (fun _ => ?_)
    · refine pm_irun 1 (σ' := (23, [some (.ref 44), some (.int a1), some (.int a2)], [.int (0 : Int32)], M)) rfl ?_
      exact pm_irZ (Or.inl rfl) rfl rfl
    · refine pm_irun 5 (σ' := (15, [some (.ref 44), some (.int a1), some (.int a2)], [.int ((M.1 44 1) - a2), .int a1], M)) rfl ?_
      refine pm_iite (σ1 := (22, [some (.ref 44), some (.int a1), some (.int a2)], [], M)) (σ2 := (18, [some (.ref 44), some (.int a1), some (.int a2)], [], M)) rfl (fun _ => ?_) (fun _ => ?_)
      · refine pm_irun 1 (σ' := (23, [some (.ref 44), some (.int a1), some (.int a2)], [.int (0 : Int32)], M)) rfl ?_
        exact pm_irZ (Or.inl rfl) rfl rfl
      · refine pm_irun 2 (σ' := (23, [some (.ref 44), some (.int a1), some (.int a2)], [.int (1 : Int32)], M)) rfl ?_
        exact pm_irZ (Or.inr rfl) rfl rfl
def sSheet_hasRun_46 (a1 : Int32) (a2 : Int32) (M : pm_M) : Option (Int32 × pm_M) := if a1 < 0 then (some ((0 : Int32), M)) else (if a2 < 0 then (some ((0 : Int32), M)) else (if ((M.1 46 1) - a2) < a1 then (some ((0 : Int32), M)) else (some ((1 : Int32), M))))
abbrev I_Sheet_hasRun_46 (sh : Option (Int32 × pm_M)) (σ : pm_St) : Prop := pm_Im none (pm_Ev 0) pm_T11 (some .boolean) pm_rI sh σ
set_option maxHeartbeats 4000000 in
set_option maxRecDepth 100000 in
theorem sSheet_hasRun_46_ok (a1 : Int32) (a2 : Int32) (M : pm_M) : ∀ r, sSheet_hasRun_46 a1 a2 M = some r → pm_Ev 1 11 [.ref 46, .int a1, .int a2] M (pm_rI r).1 (pm_rI r).2 := by
  refine pm_meth (al := [some (.ref 46), some (.int a1), some (.int a2)]) rfl rfl rfl rfl rfl ?_
  unfold sSheet_hasRun_46
  show I_Sheet_hasRun_46 _ (0, [some (.ref 46), some (.int a1), some (.int a2)], [], M)
  refine pm_irun 1 (σ' := (1, [some (.ref 46), some (.int a1), some (.int a2)], [.int a1], M)) rfl ?_
  refine pm_iite (σ1 := (22, [some (.ref 46), some (.int a1), some (.int a2)], [], M)) (σ2 := (4, [some (.ref 46), some (.int a1), some (.int a2)], [], M)) rfl (fun _ => ?_) (fun _ => ?_)
  · refine pm_irun 1 (σ' := (23, [some (.ref 46), some (.int a1), some (.int a2)], [.int (0 : Int32)], M)) rfl ?_
    exact pm_irZ (Or.inl rfl) rfl rfl
  · refine pm_irun 1 (σ' := (5, [some (.ref 46), some (.int a1), some (.int a2)], [.int a2], M)) rfl ?_
    refine pm_iite (σ1 := (22, [some (.ref 46), some (.int a1), some (.int a2)], [], M)) (σ2 := (8, [some (.ref 46), some (.int a1), some (.int a2)], [], M)) rfl (fun _ => ?_) (fun _ => ?_)
    · refine pm_irun 1 (σ' := (23, [some (.ref 46), some (.int a1), some (.int a2)], [.int (0 : Int32)], M)) rfl ?_
      exact pm_irZ (Or.inl rfl) rfl rfl
    · refine pm_irun 5 (σ' := (15, [some (.ref 46), some (.int a1), some (.int a2)], [.int ((M.1 46 1) - a2), .int a1], M)) rfl ?_
      refine pm_iite (σ1 := (22, [some (.ref 46), some (.int a1), some (.int a2)], [], M)) (σ2 := (18, [some (.ref 46), some (.int a1), some (.int a2)], [], M)) rfl (fun _ => ?_) (fun _ => ?_)
      · refine pm_irun 1 (σ' := (23, [some (.ref 46), some (.int a1), some (.int a2)], [.int (0 : Int32)], M)) rfl ?_
        exact pm_irZ (Or.inl rfl) rfl rfl
      · refine pm_irun 2 (σ' := (23, [some (.ref 46), some (.int a1), some (.int a2)], [.int (1 : Int32)], M)) rfl ?_
        exact pm_irZ (Or.inr rfl) rfl rfl
