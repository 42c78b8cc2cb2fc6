def sR_rate (a1 : Int32) (a2 : Int32) (a3 : Int32) (M : pm_M) : Option (Int64 × pm_M) := pm_bd (sR_isPart a1 M) fun v2 M1 => if v2 = 0 then (some ((-4611686018427387904 : Int64), M1)) else (pm_bd (sR_in (a2.toInt64) (0 : Int64) (4 : Int64) M1) fun v4 M3 => if v4 = 0 then (some ((-4611686018427387904 : Int64), M3)) else (pm_bd (sR_in (a3.toInt64) (0 : Int64) (1 : Int64) M3) fun v6 M5 => if v6 = 0 then (some ((-4611686018427387904 : Int64), M5)) else (pm_bd (sR_isSound M5) fun v8 M7 => if ¬ v8 = 0 then (if pm_in a1 2 then (pm_lt ((M7.1 53 a1.toNatClampNeg)) fun x9 => pm_jn (fun (M11 : pm_M) => pm_jn (fun (M13 : pm_M) => if a2 ≤ (2 : Int32) then (pm_bv (sR_constants (M13.1 49 1) (-1 : Int32) M13) fun M14 => pm_lt ((M14.1 53 0)) fun x15 => pm_lt ((M14.1 53 1)) fun x16 => pm_jn (fun (x19 : Int32) (M18 : pm_M) => pm_jn (fun (x22 : Int32) (M21 : pm_M) => pm_jn (fun (x25 : Int32) (M24 : pm_M) => pm_jn (fun (x28 : Int32) (M27 : pm_M) => pm_bd (sR_rateAbove a1 x25 x28 M27) fun v30 M29 => pm_bd (sR_whole x25 x28 M29) fun v32 M31 => pm_bd (sR_part v30 v32 a3 M31) fun v34 M33 => some (v34, M33)) fun (j26 : Int32 → pm_M → Option (Int64 × pm_M)) => if ¬ a2 = (2 : Int32) then (j26 x19 M24) else (if ¬ a1 = (1 : Int32) then (j26 x19 M24) else (pm_lt ((x19 + (1 : Int32))) fun x35 => j26 x35 M24))) fun (j23 : Int32 → pm_M → Option (Int64 × pm_M)) => if ¬ a2 = (2 : Int32) then (j23 x22 M21) else (if ¬ a1 = 0 then (j23 x22 M21) else (pm_lt ((x22 + (1 : Int32))) fun x36 => j23 x36 M21))) fun (j20 : Int32 → pm_M → Option (Int64 × pm_M)) => if ¬ a2 = (1 : Int32) then (j20 x15 M18) else (if ¬ a1 = (1 : Int32) then (j20 x15 M18) else (j20 (0 : Int32) M18))) fun (j17 : Int32 → pm_M → Option (Int64 × pm_M)) => if ¬ a2 = (1 : Int32) then (j17 x16 M14) else (if ¬ a1 = 0 then (j17 x16 M14) else (j17 (0 : Int32) M14))) else (pm_bd (sR_limit a1 a2 a3 M13) fun v38 M37 => some (v38, M37))) fun (j12 : pm_M → Option (Int64 × pm_M)) => if ¬ a2 = (2 : Int32) then (j12 M11) else (if x9 = (6 : Int32) then (some ((-4611686018427387904 : Int64), M11)) else (if ¬ ((M11.1 53 0) + (M11.1 53 1)) = (8 : Int32) then (j12 M11) else (some ((-4611686018427387904 : Int64), M11))))) fun (j10 : pm_M → Option (Int64 × pm_M)) => if a2 ≤ (1 : Int32) then (j10 M7) else (if x9 = 0 then (some ((-4611686018427387904 : Int64), M7)) else (j10 M7))) else none) else (some ((-4611686018427387904 : Int64), M7)))))
abbrev I_R_rate (sh : Option (Int64 × pm_M)) (σ : pm_St) : Prop := pm_Im none (pm_Ev 14) pm_T169 (some .long) pm_rL sh σ
set_option maxHeartbeats 4000000 in
set_option maxRecDepth 100000 in
theorem sR_rate_ok (a1 : Int32) (a2 : Int32) (a3 : Int32) (M : pm_M) : ∀ r, sR_rate a1 a2 a3 M = some r → pm_Ev 15 169 [.ref 49, .int a1, .int a2, .int a3] M (pm_rL r).1 (pm_rL r).2 := by
  refine pm_meth (al := [some (.ref 49), some (.int a1), some (.int a2), some (.int a3), none, none, none]) rfl rfl rfl rfl rfl ?_
  unfold sR_rate
  show I_R_rate _ (0, [some (.ref 49), some (.int a1), some (.int a2), some (.int a3), none, none, none], [], M)
  refine pm_irun 1 (σ' := (1, [some (.ref 49), some (.int a1), some (.int a2), some (.int a3), none, none, none], [.int a1], M)) rfl ?_
  refine pm_icI (as := [.int a1]) (rest := []) rfl rfl rfl rfl (Nat.le_of_ble_eq_true rfl) rfl (fun r h => pm_Ev_mono (Nat.le_of_ble_eq_true rfl) (sR_isPart_ok a1 M r h)) (fun v2 M1 => ?_)
  show pm_Im _ _ _ _ _ _ (4, [some (.ref 49), some (.int a1), some (.int a2), some (.int a3), none, none, none], [.int v2], M1)
  refine pm_iite (σ1 := (36, [some (.ref 49), some (.int a1), some (.int a2), some (.int a3), none, none, none], [], M1)) (σ2 := (7, [some (.ref 49), some (.int a1), some (.int a2), some (.int a3), none, none, none], [], M1)) rfl (fun _ => ?_) (fun _ => ?_)
  · refine pm_irun 1 (σ' := (39, [some (.ref 49), some (.int a1), some (.int a2), some (.int a3), none, none, none], [.long (-4611686018427387904 : Int64)], M1)) rfl ?_
    exact pm_irL rfl rfl
  · refine pm_irun 4 (σ' := (13, [some (.ref 49), some (.int a1), some (.int a2), some (.int a3), none, none, none], [.long (4 : Int64), .long (0 : Int64), .long a2.toInt64], M1)) rfl ?_
    refine pm_icI (as := [.long a2.toInt64, .long (0 : Int64), .long (4 : Int64)]) (rest := []) rfl rfl rfl rfl (Nat.le_of_ble_eq_true rfl) rfl (fun r h => pm_Ev_mono (Nat.le_of_ble_eq_true rfl) (sR_in_ok (a2.toInt64) (0 : Int64) (4 : Int64) M1 r h)) (fun v4 M3 => ?_)
    show pm_Im _ _ _ _ _ _ (16, [some (.ref 49), some (.int a1), some (.int a2), some (.int a3), none, none, none], [.int v4], M3)
    refine pm_iite (σ1 := (36, [some (.ref 49), some (.int a1), some (.int a2), some (.int a3), none, none, none], [], M3)) (σ2 := (19, [some (.ref 49), some (.int a1), some (.int a2), some (.int a3), none, none, none], [], M3)) rfl (fun _ => ?_) (fun _ => ?_)
    · refine pm_irun 1 (σ' := (39, [some (.ref 49), some (.int a1), some (.int a2), some (.int a3), none, none, none], [.long (-4611686018427387904 : Int64)], M3)) rfl ?_
      exact pm_irL rfl rfl
    · refine pm_irun 4 (σ' := (23, [some (.ref 49), some (.int a1), some (.int a2), some (.int a3), none, none, none], [.long (1 : Int64), .long (0 : Int64), .long a3.toInt64], M3)) rfl ?_
      refine pm_icI (as := [.long a3.toInt64, .long (0 : Int64), .long (1 : Int64)]) (rest := []) rfl rfl rfl rfl (Nat.le_of_ble_eq_true rfl) rfl (fun r h => pm_Ev_mono (Nat.le_of_ble_eq_true rfl) (sR_in_ok (a3.toInt64) (0 : Int64) (1 : Int64) M3 r h)) (fun v6 M5 => ?_)
      show pm_Im _ _ _ _ _ _ (26, [some (.ref 49), some (.int a1), some (.int a2), some (.int a3), none, none, none], [.int v6], M5)
      refine pm_iite (σ1 := (36, [some (.ref 49), some (.int a1), some (.int a2), some (.int a3), none, none, none], [], M5)) (σ2 := (29, [some (.ref 49), some (.int a1), some (.int a2), some (.int a3), none, none, none], [], M5)) rfl (fun _ => ?_) (fun _ => ?_)
      · refine pm_irun 1 (σ' := (39, [some (.ref 49), some (.int a1), some (.int a2), some (.int a3), none, none, none], [.long (-4611686018427387904 : Int64)], M5)) rfl ?_
        exact pm_irL rfl rfl
      · refine pm_irun 1 (σ' := (30, [some (.ref 49), some (.int a1), some (.int a2), some (.int a3), none, none, none], [.ref 49], M5)) rfl ?_
        refine pm_icI (as := [.ref 49]) (rest := []) rfl rfl rfl rfl (Nat.le_of_ble_eq_true rfl) rfl (fun r h => pm_Ev_mono (Nat.le_of_ble_eq_true rfl) (sR_isSound_ok M5 r h)) (fun v8 M7 => ?_)
        show pm_Im _ _ _ _ _ _ (33, [some (.ref 49), some (.int a1), some (.int a2), some (.int a3), none, none, none], [.int v8], M7)
        refine pm_iite (σ1 := (40, [some (.ref 49), some (.int a1), some (.int a2), some (.int a3), none, none, none], [], M7)) (σ2 := (36, [some (.ref 49), some (.int a1), some (.int a2), some (.int a3), none, none, none], [], M7)) rfl (fun _ => ?_) (fun _ => ?_)
        · refine pm_irun 3 (σ' := (45, [some (.ref 49), some (.int a1), some (.int a2), some (.int a3), none, none, none], [.int a1, .ref 53], M7)) rfl ?_
          refine pm_igd (σ1 := (46, [some (.ref 49), some (.int a1), some (.int a2), some (.int a3), none, none, none], [.int (M7.1 53 a1.toNatClampNeg)], M7)) rfl (fun _ => ?_)
          refine pm_irun 1 (σ' := (48, [some (.ref 49), some (.int a1), some (.int a2), some (.int a3), some (.int (M7.1 53 a1.toNatClampNeg)), none, none], [], M7)) rfl ?_
          refine pm_ilt (fun y => (48, [some (.ref 49), some (.int a1), some (.int a2), some (.int a3), some (.int y), none, none], [], M7)) (fun x9 => ?_)
          refine pm_irun 2 (σ' := (50, [some (.ref 49), some (.int a1), some (.int a2), some (.int a3), some (.int x9), none, none], [.int (1 : Int32), .int a2], M7)) rfl ?_
          refine pm_ijn (fun (g : pm_M → Option (Int64 × pm_M)) => ∀ (M11 : pm_M), I_R_rate (g M11) (58, [some (.ref 49), some (.int a1), some (.int a2), some (.int a3), some (.int x9), none, none], [], M11)) (fun (M11 : pm_M) => ?_) (fun j10 hj10 => ?_)
          · show I_R_rate _ (58, [some (.ref 49), some (.int a1), some (.int a2), some (.int a3), some (.int x9), none, none], [], M11)
            refine pm_irun 2 (σ' := (60, [some (.ref 49), some (.int a1), some (.int a2), some (.int a3), some (.int x9), none, none], [.int (2 : Int32), .int a2], M11)) rfl ?_
            refine pm_ijn (fun (g : pm_M → Option (Int64 × pm_M)) => ∀ (M13 : pm_M), I_R_rate (g M13) (92, [some (.ref 49), some (.int a1), some (.int a2), some (.int a3), none, none, none], [], M13)) (fun (M13 : pm_M) => ?_) (fun j12 hj12 => ?_)
            · show I_R_rate _ (92, [some (.ref 49), some (.int a1), some (.int a2), some (.int a3), none, none, none], [], M13)
              refine pm_irun 2 (σ' := (94, [some (.ref 49), some (.int a1), some (.int a2), some (.int a3), none, none, none], [.int (2 : Int32), .int a2], M13)) rfl ?_
              refine pm_iite (σ1 := (105, [some (.ref 49), some (.int a1), some (.int a2), some (.int a3), none, none, none], [], M13)) (σ2 := (97, [some (.ref 49), some (.int a1), some (.int a2), some (.int a3), none, none, none], [], M13)) rfl (fun _ => ?_) (fun _ => ?_)
              · refine pm_irun 4 (σ' := (111, [some (.ref 49), some (.int a1), some (.int a2), some (.int a3), none, none, none], [.int (-1 : Int32), .int (M13.1 49 1), .ref 49], M13)) rfl ?_
                refine pm_icV (as := [.ref 49, .int (M13.1 49 1), .int (-1 : Int32)]) (rest := []) rfl rfl rfl rfl (Nat.le_of_ble_eq_true rfl) rfl (fun r h => pm_Ev_mono (Nat.le_of_ble_eq_true rfl) (sR_constants_ok (M13.1 49 1) (-1 : Int32) M13 r h)) (fun M14 => ?_)
                show pm_Im _ _ _ _ _ _ (114, [some (.ref 49), some (.int a1), some (.int a2), some (.int a3), none, none, none], [], M14)
                refine pm_irun 3 (σ' := (119, [some (.ref 49), some (.int a1), some (.int a2), some (.int a3), none, none, none], [.int (0 : Int32), .ref 53], M14)) rfl ?_
                refine pm_igt (c := pm_in (0 : Int32) 2) (σ1 := (120, [some (.ref 49), some (.int a1), some (.int a2), some (.int a3), none, none, none], [.int (M14.1 53 0)], M14)) (by decide) rfl ?_
                refine pm_irun 1 (σ' := (122, [some (.ref 49), some (.int a1), some (.int a2), some (.int a3), none, some (.int (M14.1 53 0)), none], [], M14)) rfl ?_
                refine pm_ilt (fun y => (122, [some (.ref 49), some (.int a1), some (.int a2), some (.int a3), none, some (.int y), none], [], M14)) (fun x15 => ?_)
                refine pm_irun 3 (σ' := (127, [some (.ref 49), some (.int a1), some (.int a2), some (.int a3), none, some (.int x15), none], [.int (1 : Int32), .ref 53], M14)) rfl ?_
                refine pm_igt (c := pm_in (1 : Int32) 2) (σ1 := (128, [some (.ref 49), some (.int a1), some (.int a2), some (.int a3), none, some (.int x15), none], [.int (M14.1 53 1)], M14)) (by decide) rfl ?_
                refine pm_irun 1 (σ' := (130, [some (.ref 49), some (.int a1), some (.int a2), some (.int a3), none, some (.int x15), some (.int (M14.1 53 1))], [], M14)) rfl ?_
                refine pm_ilt (fun y => (130, [some (.ref 49), some (.int a1), some (.int a2), some (.int a3), none, some (.int x15), some (.int y)], [], M14)) (fun x16 => ?_)
                refine pm_irun 2 (σ' := (132, [some (.ref 49), some (.int a1), some (.int a2), some (.int a3), none, some (.int x15), some (.int x16)], [.int (1 : Int32), .int a2], M14)) rfl ?_
                refine pm_ijn (fun (g : Int32 → pm_M → Option (Int64 × pm_M)) => ∀ (x19 : Int32) (M18 : pm_M), I_R_rate (g x19 M18) (142, [some (.ref 49), some (.int a1), some (.int a2), some (.int a3), none, some (.int x15), some (.int x19)], [], M18)) (fun (x19 : Int32) (M18 : pm_M) => ?_) (fun j17 hj17 => ?_)
                · show I_R_rate _ (142, [some (.ref 49), some (.int a1), some (.int a2), some (.int a3), none, some (.int x15), some (.int x19)], [], M18)
                  refine pm_irun 2 (σ' := (144, [some (.ref 49), some (.int a1), some (.int a2), some (.int a3), none, some (.int x15), some (.int x19)], [.int (1 : Int32), .int a2], M18)) rfl ?_
                  refine pm_ijn (fun (g : Int32 → pm_M → Option (Int64 × pm_M)) => ∀ (x22 : Int32) (M21 : pm_M), I_R_rate (g x22 M21) (155, [some (.ref 49), some (.int a1), some (.int a2), some (.int a3), none, some (.int x22), some (.int x19)], [], M21)) (fun (x22 : Int32) (M21 : pm_M) => ?_) (fun j20 hj20 => ?_)
                  · show I_R_rate _ (155, [some (.ref 49), some (.int a1), some (.int a2), some (.int a3), none, some (.int x22), some (.int x19)], [], M21)
                    refine pm_irun 2 (σ' := (157, [some (.ref 49), some (.int a1), some (.int a2), some (.int a3), none, some (.int x22), some (.int x19)], [.int (2 : Int32), .int a2], M21)) rfl ?_
                    refine pm_ijn (fun (g : Int32 → pm_M → Option (Int64 × pm_M)) => ∀ (x25 : Int32) (M24 : pm_M), I_R_rate (g x25 M24) (167, [some (.ref 49), some (.int a1), some (.int a2), some (.int a3), none, some (.int x25), some (.int x19)], [], M24)) (fun (x25 : Int32) (M24 : pm_M) => ?_) (fun j23 hj23 => ?_)
                    · show I_R_rate _ (167, [some (.ref 49), some (.int a1), some (.int a2), some (.int a3), none, some (.int x25), some (.int x19)], [], M24)
                      refine pm_irun 2 (σ' := (169, [some (.ref 49), some (.int a1), some (.int a2), some (.int a3), none, some (.int x25), some (.int x19)], [.int (2 : Int32), .int a2], M24)) rfl ?_
                      refine pm_ijn (fun (g : Int32 → pm_M → Option (Int64 × pm_M)) => ∀ (x28 : Int32) (M27 : pm_M), I_R_rate (g x28 M27) (180, [some (.ref 49), some (.int a1), none, some (.int a3), none, some (.int x25), some (.int x28)], [], M27)) (fun (x28 : Int32) (M27 : pm_M) => ?_) (fun j26 hj26 => ?_)
                      · show I_R_rate _ (180, [some (.ref 49), some (.int a1), none, some (.int a3), none, some (.int x25), some (.int x28)], [], M27)
                        refine pm_irun 4 (σ' := (186, [some (.ref 49), some (.int a1), none, some (.int a3), none, some (.int x25), some (.int x28)], [.int x28, .int x25, .int a1, .ref 49], M27)) rfl ?_
                        refine pm_icL (as := [.ref 49, .int a1, .int x25, .int x28]) (rest := []) rfl rfl rfl rfl (Nat.le_of_ble_eq_true rfl) rfl (fun r h => pm_Ev_mono (Nat.le_of_ble_eq_true rfl) (sR_rateAbove_ok a1 x25 x28 M27 r h)) (fun v30 M29 => ?_)
                        show pm_Im _ _ _ _ _ _ (189, [some (.ref 49), some (.int a1), none, some (.int a3), none, some (.int x25), some (.int x28)], [.long v30], M29)
                        refine pm_irun 3 (σ' := (194, [some (.ref 49), some (.int a1), none, some (.int a3), none, some (.int x25), some (.int x28)], [.int x28, .int x25, .ref 49, .long v30], M29)) rfl ?_
                        refine pm_icL (as := [.ref 49, .int x25, .int x28]) (rest := [.long v30]) rfl rfl rfl rfl (Nat.le_of_ble_eq_true rfl) rfl (fun r h => pm_Ev_mono (Nat.le_of_ble_eq_true rfl) (sR_whole_ok x25 x28 M29 r h)) (fun v32 M31 => ?_)
                        show pm_Im _ _ _ _ _ _ (197, [some (.ref 49), some (.int a1), none, some (.int a3), none, some (.int x25), some (.int x28)], [.long v32, .long v30], M31)
                        refine pm_irun 1 (σ' := (198, [some (.ref 49), some (.int a1), none, some (.int a3), none, some (.int x25), some (.int x28)], [.int a3, .long v32, .long v30], M31)) rfl ?_
                        refine pm_icL (as := [.long v30, .long v32, .int a3]) (rest := []) rfl rfl rfl rfl (Nat.le_of_ble_eq_true rfl) rfl (fun r h => pm_Ev_mono (Nat.le_of_ble_eq_true rfl) (sR_part_ok v30 v32 a3 M31 r h)) (fun v34 M33 => ?_)
                        show pm_Im _ _ _ _ _ _ (201, [some (.ref 49), some (.int a1), none, some (.int a3), none, some (.int x25), some (.int x28)], [.long v34], M33)
                        exact pm_irL rfl rfl
                      refine pm_iite (σ1 := (180, [some (.ref 49), some (.int a1), some (.int a2), some (.int a3), none, some (.int x25), some (.int x19)], [], M24)) (σ2 := (172, [some (.ref 49), some (.int a1), some (.int a2), some (.int a3), none, some (.int x25), some (.int x19)], [], M24)) rfl (fun _ => ?_) (fun _ => ?_)
                      · refine pm_iwk (al' := [some (.ref 49), some (.int a1), none, some (.int a3), none, some (.int x25), some (.int x19)]) (pm_wkS (pm_wkS (pm_wkN (pm_wkS (pm_wkS (pm_wkS (pm_wkS pm_wk0))))))) ?_
                        exact hj26 _ _
                      · refine pm_irun 2 (σ' := (174, [some (.ref 49), some (.int a1), some (.int a2), some (.int a3), none, some (.int x25), some (.int x19)], [.int (1 : Int32), .int a1], M24)) rfl ?_
                        refine pm_iite (σ1 := (180, [some (.ref 49), some (.int a1), some (.int a2), some (.int a3), none, some (.int x25), some (.int x19)], [], M24)) (σ2 := (177, [some (.ref 49), some (.int a1), some (.int a2), some (.int a3), none, some (.int x25), some (.int x19)], [], M24)) rfl (fun _ => ?_) (fun _ => ?_)
                        · refine pm_iwk (al' := [some (.ref 49), some (.int a1), none, some (.int a3), none, some (.int x25), some (.int x19)]) (pm_wkS (pm_wkS (pm_wkN (pm_wkS (pm_wkS (pm_wkS (pm_wkS pm_wk0))))))) ?_
                          exact hj26 _ _
                        · refine pm_irun 1 (σ' := (180, [some (.ref 49), some (.int a1), some (.int a2), some (.int a3), none, some (.int x25), some (.int (x19 + (1 : Int32)))], [], M24)) rfl ?_
                          refine pm_ilt (fun y => (180, [some (.ref 49), some (.int a1), some (.int a2), some (.int a3), none, some (.int x25), some (.int y)], [], M24)) (fun x35 => ?_)
                          refine pm_iwk (al' := [some (.ref 49), some (.int a1), none, some (.int a3), none, some (.int x25), some (.int x35)]) (pm_wkS (pm_wkS (pm_wkN (pm_wkS (pm_wkS (pm_wkS (pm_wkS pm_wk0))))))) ?_
                          exact hj26 _ _
                    refine pm_iite (σ1 := (167, [some (.ref 49), some (.int a1), some (.int a2), some (.int a3), none, some (.int x22), some (.int x19)], [], M21)) (σ2 := (160, [some (.ref 49), some (.int a1), some (.int a2), some (.int a3), none, some (.int x22), some (.int x19)], [], M21)) rfl (fun _ => ?_) (fun _ => ?_)
                    · exact hj23 _ _
                    · refine pm_irun 1 (σ' := (161, [some (.ref 49), some (.int a1), some (.int a2), some (.int a3), none, some (.int x22), some (.int x19)], [.int a1], M21)) rfl ?_
                      refine pm_iite (σ1 := (167, [some (.ref 49), some (.int a1), some (.int a2), some (.int a3), none, some (.int x22), some (.int x19)], [], M21)) (σ2 := (164, [some (.ref 49), some (.int a1), some (.int a2), some (.int a3), none, some (.int x22), some (.int x19)], [], M21)) rfl (fun _ => ?_) (fun _ => ?_)
                      · exact hj23 _ _
                      · refine pm_irun 1 (σ' := (167, [some (.ref 49), some (.int a1), some (.int a2), some (.int a3), none, some (.int (x22 + (1 : Int32))), some (.int x19)], [], M21)) rfl ?_
                        refine pm_ilt (fun y => (167, [some (.ref 49), some (.int a1), some (.int a2), some (.int a3), none, some (.int y), some (.int x19)], [], M21)) (fun x36 => ?_)
                        exact hj23 _ _
                  refine pm_iite (σ1 := (155, [some (.ref 49), some (.int a1), some (.int a2), some (.int a3), none, some (.int x15), some (.int x19)], [], M18)) (σ2 := (147, [some (.ref 49), some (.int a1), some (.int a2), some (.int a3), none, some (.int x15), some (.int x19)], [], M18)) rfl (fun _ => ?_) (fun _ => ?_)
                  · exact hj20 _ _
                  · refine pm_irun 2 (σ' := (149, [some (.ref 49), some (.int a1), some (.int a2), some (.int a3), none, some (.int x15), some (.int x19)], [.int (1 : Int32), .int a1], M18)) rfl ?_
                    refine pm_iite (σ1 := (155, [some (.ref 49), some (.int a1), some (.int a2), some (.int a3), none, some (.int x15), some (.int x19)], [], M18)) (σ2 := (152, [some (.ref 49), some (.int a1), some (.int a2), some (.int a3), none, some (.int x15), some (.int x19)], [], M18)) rfl (fun _ => ?_) (fun _ => ?_)
                    · exact hj20 _ _
                    · refine pm_irun 2 (σ' := (155, [some (.ref 49), some (.int a1), some (.int a2), some (.int a3), none, some (.int (0 : Int32)), some (.int x19)], [], M18)) rfl ?_
                      exact hj20 _ _
                refine pm_iite (σ1 := (142, [some (.ref 49), some (.int a1), some (.int a2), some (.int a3), none, some (.int x15), some (.int x16)], [], M14)) (σ2 := (135, [some (.ref 49), some (.int a1), some (.int a2), some (.int a3), none, some (.int x15), some (.int x16)], [], M14)) rfl (fun _ => ?_) (fun _ => ?_)
                · exact hj17 _ _
                · refine pm_irun 1 (σ' := (136, [some (.ref 49), some (.int a1), some (.int a2), some (.int a3), none, some (.int x15), some (.int x16)], [.int a1], M14)) rfl ?_
                  refine pm_iite (σ1 := (142, [some (.ref 49), some (.int a1), some (.int a2), some (.int a3), none, some (.int x15), some (.int x16)], [], M14)) (σ2 := (139, [some (.ref 49), some (.int a1), some (.int a2), some (.int a3), none, some (.int x15), some (.int x16)], [], M14)) rfl (fun _ => ?_) (fun _ => ?_)
                  · exact hj17 _ _
                  · refine pm_irun 2 (σ' := (142, [some (.ref 49), some (.int a1), some (.int a2), some (.int a3), none, some (.int x15), some (.int (0 : Int32))], [], M14)) rfl ?_
                    exact hj17 _ _
              · refine pm_irun 4 (σ' := (101, [some (.ref 49), some (.int a1), some (.int a2), some (.int a3), none, none, none], [.int a3, .int a2, .int a1, .ref 49], M13)) rfl ?_
                refine pm_icL (as := [.ref 49, .int a1, .int a2, .int a3]) (rest := []) rfl rfl rfl rfl (Nat.le_of_ble_eq_true rfl) rfl (fun r h => pm_Ev_mono (Nat.le_of_ble_eq_true rfl) (sR_limit_ok a1 a2 a3 M13 r h)) (fun v38 M37 => ?_)
                show pm_Im _ _ _ _ _ _ (104, [some (.ref 49), some (.int a1), some (.int a2), some (.int a3), none, none, none], [.long v38], M37)
                exact pm_irL rfl rfl
            refine pm_iite (σ1 := (92, [some (.ref 49), some (.int a1), some (.int a2), some (.int a3), some (.int x9), none, none], [], M11)) (σ2 := (63, [some (.ref 49), some (.int a1), some (.int a2), some (.int a3), some (.int x9), none, none], [], M11)) rfl (fun _ => ?_) (fun _ => ?_)
            · refine pm_iwk (al' := [some (.ref 49), some (.int a1), some (.int a2), some (.int a3), none, none, none]) (pm_wkS (pm_wkS (pm_wkS (pm_wkS (pm_wkN (pm_wkS (pm_wkS pm_wk0))))))) ?_
              exact hj12 _
            · refine pm_irun 2 (σ' := (67, [some (.ref 49), some (.int a1), some (.int a2), some (.int a3), some (.int x9), none, none], [.int (6 : Int32), .int x9], M11)) rfl ?_
              refine pm_iite (σ1 := (88, [some (.ref 49), some (.int a1), some (.int a2), some (.int a3), some (.int x9), none, none], [], M11)) (σ2 := (70, [some (.ref 49), some (.int a1), some (.int a2), some (.int a3), some (.int x9), none, none], [], M11)) rfl (fun _ => ?_) (fun _ => ?_)
              · refine pm_irun 1 (σ' := (91, [some (.ref 49), some (.int a1), some (.int a2), some (.int a3), some (.int x9), none, none], [.long (-4611686018427387904 : Int64)], M11)) rfl ?_
                exact pm_irL rfl rfl
              · refine pm_irun 3 (σ' := (75, [some (.ref 49), some (.int a1), some (.int a2), some (.int a3), some (.int x9), none, none], [.int (0 : Int32), .ref 53], M11)) rfl ?_
                refine pm_igt (c := pm_in (0 : Int32) 2) (σ1 := (76, [some (.ref 49), some (.int a1), some (.int a2), some (.int a3), some (.int x9), none, none], [.int (M11.1 53 0)], M11)) (by decide) rfl ?_
                refine pm_irun 3 (σ' := (81, [some (.ref 49), some (.int a1), some (.int a2), some (.int a3), some (.int x9), none, none], [.int (1 : Int32), .ref 53, .int (M11.1 53 0)], M11)) rfl ?_
                refine pm_igt (c := pm_in (1 : Int32) 2) (σ1 := (82, [some (.ref 49), some (.int a1), some (.int a2), some (.int a3), some (.int x9), none, none], [.int (M11.1 53 1), .int (M11.1 53 0)], M11)) (by decide) rfl ?_
                refine pm_irun 2 (σ' := (85, [some (.ref 49), some (.int a1), some (.int a2), some (.int a3), some (.int x9), none, none], [.int (8 : Int32), .int ((M11.1 53 0) + (M11.1 53 1))], M11)) rfl ?_
                refine pm_iite (σ1 := (92, [some (.ref 49), some (.int a1), some (.int a2), some (.int a3), some (.int x9), none, none], [], M11)) (σ2 := (88, [some (.ref 49), some (.int a1), some (.int a2), some (.int a3), some (.int x9), none, none], [], M11)) rfl (fun _ => ?_) (fun _ => ?_)
                · refine pm_iwk (al' := [some (.ref 49), some (.int a1), some (.int a2), some (.int a3), none, none, none]) (pm_wkS (pm_wkS (pm_wkS (pm_wkS (pm_wkN (pm_wkS (pm_wkS pm_wk0))))))) ?_
                  exact hj12 _
                · refine pm_irun 1 (σ' := (91, [some (.ref 49), some (.int a1), some (.int a2), some (.int a3), some (.int x9), none, none], [.long (-4611686018427387904 : Int64)], M11)) rfl ?_
                  exact pm_irL rfl rfl
          refine pm_iite (σ1 := (58, [some (.ref 49), some (.int a1), some (.int a2), some (.int a3), some (.int x9), none, none], [], M7)) (σ2 := (53, [some (.ref 49), some (.int a1), some (.int a2), some (.int a3), some (.int x9), none, none], [], M7)) rfl (fun _ => ?_) (fun _ => ?_)
          · exact hj10 _
          · refine pm_irun 1 (σ' := (55, [some (.ref 49), some (.int a1), some (.int a2), some (.int a3), some (.int x9), none, none], [.int x9], M7)) rfl ?_
            refine pm_iite (σ1 := (88, [some (.ref 49), some (.int a1), some (.int a2), some (.int a3), some (.int x9), none, none], [], M7)) (σ2 := (58, [some (.ref 49), some (.int a1), some (.int a2), some (.int a3), some (.int x9), none, none], [], M7)) rfl (fun _ => ?_) (fun _ => ?_)
            · refine pm_irun 1 (σ' := (91, [some (.ref 49), some (.int a1), some (.int a2), some (.int a3), some (.int x9), none, none], [.long (-4611686018427387904 : Int64)], M7)) rfl ?_
              exact pm_irL rfl rfl
            · exact hj10 _
        · refine pm_irun 1 (σ' := (39, [some (.ref 49), some (.int a1), some (.int a2), some (.int a3), none, none, none], [.long (-4611686018427387904 : Int64)], M7)) rfl ?_
          exact pm_irL rfl rfl
def sStates_rateAbove (a1 : Int32) (M : pm_M) : Option (Int64 × pm_M) := pm_bv (sStates_fillConstants (M.1 23 1) (M.1 23 2) (M.1 23 0) (-1 : Int32) M) fun M1 => pm_bd (sStates_oneLessAbove a1 (M1.1 23 1) (M1.1 23 2) M1) fun v3 M2 => some (v3, M2)
abbrev I_States_rateAbove (sh : Option (Int64 × pm_M)) (σ : pm_St) : Prop := pm_Im none (pm_Ev 4) pm_T17 (some .long) pm_rL sh σ
set_option maxHeartbeats 4000000 in
set_option maxRecDepth 100000 in
theorem sStates_rateAbove_ok (a1 : Int32) (M : pm_M) : ∀ r, sStates_rateAbove a1 M = some r → pm_Ev 5 17 [.ref 23, .int a1] M (pm_rL r).1 (pm_rL r).2 := by
  refine pm_meth (al := [some (.ref 23), some (.int a1)]) rfl rfl rfl rfl rfl ?_
  unfold sStates_rateAbove
  show I_States_rateAbove _ (0, [some (.ref 23), some (.int a1)], [], M)
  refine pm_irun 8 (σ' := (14, [some (.ref 23), some (.int a1)], [.int (-1 : Int32), .int (M.1 23 0), .int (M.1 23 2), .int (M.1 23 1), .ref 23], M)) rfl ?_
  refine pm_icV (as := [.ref 23, .int (M.1 23 1), .int (M.1 23 2), .int (M.1 23 0), .int (-1 : Int32)]) (rest := []) rfl rfl rfl rfl (Nat.le_of_ble_eq_true rfl) rfl (fun r h => pm_Ev_mono (Nat.le_of_ble_eq_true rfl) (sStates_fillConstants_ok (M.1 23 1) (M.1 23 2) (M.1 23 0) (-1 : Int32) M r h)) (fun M1 => ?_)
  show pm_Im _ _ _ _ _ _ (17, [some (.ref 23), some (.int a1)], [], M1)
  refine pm_irun 6 (σ' := (27, [some (.ref 23), some (.int a1)], [.int (M1.1 23 2), .int (M1.1 23 1), .int a1, .ref 23], M1)) rfl ?_
  refine pm_icL (as := [.ref 23, .int a1, .int (M1.1 23 1), .int (M1.1 23 2)]) (rest := []) rfl rfl rfl rfl (Nat.le_of_ble_eq_true rfl) rfl (fun r h => pm_Ev_mono (Nat.le_of_ble_eq_true rfl) (sStates_oneLessAbove_ok a1 (M1.1 23 1) (M1.1 23 2) M1 r h)) (fun v3 M2 => ?_)
  show pm_Im _ _ _ _ _ _ (30, [some (.ref 23), some (.int a1)], [.long v3], M2)
  exact pm_irL rfl rfl
def sStates_numberAbove (a1 : Int32) (a2 : Int32) (M : pm_M) : Option (Int64 × pm_M) := pm_bv (sStates_fillConstants (M.1 23 1) (M.1 23 2) (M.1 23 0) a2 M) fun M1 => pm_bv (sStates_fillFactors a2 (M1.1 23 1) (M1.1 23 2) M1) fun M2 => pm_loop (fun _ _ _ => none) (fun (g3 : Int64 → Int32 → pm_M → Option (Int64 × pm_M)) x5 x6 M4 => if (M4.1 23 1) < x6 then (some (x5, M4)) else (pm_loop (fun _ _ _ => none) (fun (g7 : Int64 → Int32 → pm_M → Option (Int64 × pm_M)) x9 x10 M8 => if (M8.1 23 2) < x10 then (pm_lt ((x6 + (1 : Int32))) fun x11 => g3 x9 x11 M8) else (pm_jn (fun (q14 : Int32) (M13 : pm_M) => pm_bd (sStates_waysTimes (M13.1 23 1) (M13.1 23 2) x6 x10 M13) fun v16 M15 => pm_lt ((x9 + (q14.toInt64 * v16))) fun x17 => pm_lt ((x10 + (1 : Int32))) fun x18 => g7 x17 x18 M15) fun (j12 : Int32 → pm_M → Option (Int64 × pm_M)) => if ¬ a1 = 0 then (j12 x10 M8) else (j12 x6 M8))) 1000000 x5 (0 : Int32) M4)) 1000000 (0 : Int64) (0 : Int32) M2
abbrev I_States_numberAbove (sh : Option (Int64 × pm_M)) (σ : pm_St) : Prop := pm_Im none (pm_Ev 4) pm_T20 (some .long) pm_rL sh σ
set_option maxHeartbeats 4000000 in
set_option maxRecDepth 100000 in
theorem sStates_numberAbove_ok (a1 : Int32) (a2 : Int32) (M : pm_M) : ∀ r, sStates_numberAbove a1 a2 M = some r → pm_Ev 5 20 [.ref 23, .int a1, .int a2] M (pm_rL r).1 (pm_rL r).2 := by
  refine pm_meth (al := [some (.ref 23), some (.int a1), some (.int a2), none, none, none, none]) rfl rfl rfl rfl rfl ?_
  unfold sStates_numberAbove
  show I_States_numberAbove _ (0, [some (.ref 23), some (.int a1), some (.int a2), none, none, none, none], [], M)
  refine pm_irun 8 (σ' := (14, [some (.ref 23), some (.int a1), some (.int a2), none, none, none, none], [.int a2, .int (M.1 23 0), .int (M.1 23 2), .int (M.1 23 1), .ref 23], M)) rfl ?_
  refine pm_icV (as := [.ref 23, .int (M.1 23 1), .int (M.1 23 2), .int (M.1 23 0), .int a2]) (rest := []) rfl rfl rfl rfl (Nat.le_of_ble_eq_true rfl) rfl (fun r h => pm_Ev_mono (Nat.le_of_ble_eq_true rfl) (sStates_fillConstants_ok (M.1 23 1) (M.1 23 2) (M.1 23 0) a2 M r h)) (fun M1 => ?_)
  show pm_Im _ _ _ _ _ _ (17, [some (.ref 23), some (.int a1), some (.int a2), none, none, none, none], [], M1)
  refine pm_irun 6 (σ' := (27, [some (.ref 23), some (.int a1), some (.int a2), none, none, none, none], [.int (M1.1 23 2), .int (M1.1 23 1), .int a2, .ref 23], M1)) rfl ?_
  refine pm_icV (as := [.ref 23, .int a2, .int (M1.1 23 1), .int (M1.1 23 2)]) (rest := []) rfl rfl rfl rfl (Nat.le_of_ble_eq_true rfl) rfl (fun r h => pm_Ev_mono (Nat.le_of_ble_eq_true rfl) (sStates_fillFactors_ok a2 (M1.1 23 1) (M1.1 23 2) M1 r h)) (fun M2 => ?_)
  show pm_Im _ _ _ _ _ _ (30, [some (.ref 23), some (.int a1), some (.int a2), none, none, none, none], [], M2)
  refine pm_irun 2 (σ' := (32, [some (.ref 23), some (.int a1), some (.int a2), some (.long (0 : Int64)), none, none, none], [], M2)) rfl ?_
  refine pm_irun 2 (σ' := (35, [some (.ref 23), some (.int a1), some (.int a2), some (.long (0 : Int64)), none, some (.int (0 : Int32)), none], [], M2)) rfl ?_
  refine pm_iwk (al' := [some (.ref 23), some (.int a1), none, some (.long (0 : Int64)), none, some (.int (0 : Int32)), none]) (pm_wkS (pm_wkS (pm_wkN (pm_wkS (pm_wkS (pm_wkS (pm_wkS pm_wk0))))))) ?_
  refine pm_iloop (fun (g : Int64 → Int32 → pm_M → Option (Int64 × pm_M)) => ∀ (x5 : Int64) (x6 : Int32) (M4 : pm_M), I_States_numberAbove (g x5 x6 M4) (35, [some (.ref 23), some (.int a1), none, some (.long x5), none, some (.int x6), none], [], M4)) (fun _ _ _ => pm_inone) (fun g3 hg3 x5 x6 M4 => ?_) 1000000 _ _ _
  show I_States_numberAbove _ (35, [some (.ref 23), some (.int a1), none, some (.long x5), none, some (.int x6), none], [], M4)
  refine pm_irun 3 (σ' := (41, [some (.ref 23), some (.int a1), none, some (.long x5), none, some (.int x6), none], [.int (M4.1 23 1), .int x6], M4)) rfl ?_
  refine pm_iite (σ1 := (100, [some (.ref 23), some (.int a1), none, some (.long x5), none, some (.int x6), none], [], M4)) (σ2 := (44, [some (.ref 23), some (.int a1), none, some (.long x5), none, some (.int x6), none], [], M4)) rfl (fun _ => ?_) (fun _ => ?_)
  · refine pm_irun 1 (σ' := (101, [some (.ref 23), some (.int a1), none, some (.long x5), none, some (.int x6), none], [.long x5], M4)) rfl ?_
    exact pm_irL rfl rfl
  · refine pm_irun 2 (σ' := (47, [some (.ref 23), some (.int a1), none, some (.long x5), none, some (.int x6), some (.int (0 : Int32))], [], M4)) rfl ?_
    refine pm_iloop (fun (g : Int64 → Int32 → pm_M → Option (Int64 × pm_M)) => ∀ (x9 : Int64) (x10 : Int32) (M8 : pm_M), I_States_numberAbove (g x9 x10 M8) (47, [some (.ref 23), some (.int a1), none, some (.long x9), none, some (.int x6), some (.int x10)], [], M8)) (fun _ _ _ => pm_inone) (fun g7 hg7 x9 x10 M8 => ?_) 1000000 _ _ _
    show I_States_numberAbove _ (47, [some (.ref 23), some (.int a1), none, some (.long x9), none, some (.int x6), some (.int x10)], [], M8)
    refine pm_irun 3 (σ' := (53, [some (.ref 23), some (.int a1), none, some (.long x9), none, some (.int x6), some (.int x10)], [.int (M8.1 23 2), .int x10], M8)) rfl ?_
    refine pm_iite (σ1 := (94, [some (.ref 23), some (.int a1), none, some (.long x9), none, some (.int x6), some (.int x10)], [], M8)) (σ2 := (56, [some (.ref 23), some (.int a1), none, some (.long x9), none, some (.int x6), some (.int x10)], [], M8)) rfl (fun _ => ?_) (fun _ => ?_)
    · refine pm_irun 1 (σ' := (97, [some (.ref 23), some (.int a1), none, some (.long x9), none, some (.int (x6 + (1 : Int32))), some (.int x10)], [], M8)) rfl ?_
      refine pm_ilt (fun y => (97, [some (.ref 23), some (.int a1), none, some (.long x9), none, some (.int y), some (.int x10)], [], M8)) (fun x11 => ?_)
      refine pm_irun 1 (σ' := (35, [some (.ref 23), some (.int a1), none, some (.long x9), none, some (.int x11), some (.int x10)], [], M8)) rfl ?_
      refine pm_iwk (al' := [some (.ref 23), some (.int a1), none, some (.long x9), none, some (.int x11), none]) (pm_wkS (pm_wkS (pm_wkS (pm_wkS (pm_wkS (pm_wkS (pm_wkN pm_wk0))))))) ?_
      exact hg3 _ _ _
    · refine pm_irun 2 (σ' := (58, [some (.ref 23), some (.int a1), none, some (.long x9), none, some (.int x6), some (.int x10)], [.int a1, .long x9], M8)) rfl ?_
      refine pm_ijn (fun (g : Int32 → pm_M → Option (Int64 × pm_M)) => ∀ (q14 : Int32) (M13 : pm_M), I_States_numberAbove (g q14 M13) (68, [some (.ref 23), some (.int a1), none, none, none, some (.int x6), some (.int x10)], [.int q14, .long x9], M13)) (fun (q14 : Int32) (M13 : pm_M) => ?_) (fun j12 hj12 => ?_)
      · show I_States_numberAbove _ (68, [some (.ref 23), some (.int a1), none, none, none, some (.int x6), some (.int x10)], [.int q14, .long x9], M13)
        refine pm_irun 8 (σ' := (82, [some (.ref 23), some (.int a1), none, none, none, some (.int x6), some (.int x10)], [.int x10, .int x6, .int (M13.1 23 2), .int (M13.1 23 1), .ref 23, .long q14.toInt64, .long x9], M13)) rfl ?_
        refine pm_icL (as := [.ref 23, .int (M13.1 23 1), .int (M13.1 23 2), .int x6, .int x10]) (rest := [.long q14.toInt64, .long x9]) rfl rfl rfl rfl (Nat.le_of_ble_eq_true rfl) rfl (fun r h => pm_Ev_mono (Nat.le_of_ble_eq_true rfl) (sStates_waysTimes_ok (M13.1 23 1) (M13.1 23 2) x6 x10 M13 r h)) (fun v16 M15 => ?_)
        show pm_Im _ _ _ _ _ _ (85, [some (.ref 23), some (.int a1), none, none, none, some (.int x6), some (.int x10)], [.long v16, .long q14.toInt64, .long x9], M15)
        refine pm_irun 3 (σ' := (88, [some (.ref 23), some (.int a1), none, some (.long (x9 + (q14.toInt64 * v16))), none, some (.int x6), some (.int x10)], [], M15)) rfl ?_
        refine pm_ilt (fun y => (88, [some (.ref 23), some (.int a1), none, some (.long y), none, some (.int x6), some (.int x10)], [], M15)) (fun x17 => ?_)
        refine pm_irun 1 (σ' := (91, [some (.ref 23), some (.int a1), none, some (.long x17), none, some (.int x6), some (.int (x10 + (1 : Int32)))], [], M15)) rfl ?_
        refine pm_ilt (fun y => (91, [some (.ref 23), some (.int a1), none, some (.long x17), none, some (.int x6), some (.int y)], [], M15)) (fun x18 => ?_)
        refine pm_irun 1 (σ' := (47, [some (.ref 23), some (.int a1), none, some (.long x17), none, some (.int x6), some (.int x18)], [], M15)) rfl ?_
        exact hg7 _ _ _
      refine pm_iite (σ1 := (66, [some (.ref 23), some (.int a1), none, some (.long x9), none, some (.int x6), some (.int x10)], [.long x9], M8)) (σ2 := (61, [some (.ref 23), some (.int a1), none, some (.long x9), none, some (.int x6), some (.int x10)], [.long x9], M8)) rfl (fun _ => ?_) (fun _ => ?_)
      · refine pm_irun 1 (σ' := (68, [some (.ref 23), some (.int a1), none, some (.long x9), none, some (.int x6), some (.int x10)], [.int x10, .long x9], M8)) rfl ?_
        refine pm_iwk (al' := [some (.ref 23), some (.int a1), none, none, none, some (.int x6), some (.int x10)]) (pm_wkS (pm_wkS (pm_wkS (pm_wkN (pm_wkS (pm_wkS (pm_wkS pm_wk0))))))) ?_
        exact hj12 _ _
      · refine pm_irun 2 (σ' := (68, [some (.ref 23), some (.int a1), none, some (.long x9), none, some (.int x6), some (.int x10)], [.int x6, .long x9], M8)) rfl ?_
        refine pm_iwk (al' := [some (.ref 23), some (.int a1), none, none, none, some (.int x6), some (.int x10)]) (pm_wkS (pm_wkS (pm_wkS (pm_wkN (pm_wkS (pm_wkS (pm_wkS pm_wk0))))))) ?_
        exact hj12 _ _
def sStates_constantOfAll  (M : pm_M) : Option (Int64 × pm_M) := pm_bd (sStates_constantOf (M.1 23 1) (M.1 23 2) (M.1 23 0) M) fun v2 M1 => some (v2, M1)
abbrev I_States_constantOfAll (sh : Option (Int64 × pm_M)) (σ : pm_St) : Prop := pm_Im none (pm_Ev 5) pm_T16 (some .long) pm_rL sh σ
set_option maxHeartbeats 4000000 in
set_option maxRecDepth 100000 in
theorem sStates_constantOfAll_ok  (M : pm_M) : ∀ r, sStates_constantOfAll  M = some r → pm_Ev 6 16 [.ref 23] M (pm_rL r).1 (pm_rL r).2 := by
  refine pm_meth (al := [some (.ref 23)]) rfl rfl rfl rfl rfl ?_
  unfold sStates_constantOfAll
  show I_States_constantOfAll _ (0, [some (.ref 23)], [], M)
  refine pm_irun 7 (σ' := (13, [some (.ref 23)], [.int (M.1 23 0), .int (M.1 23 2), .int (M.1 23 1), .ref 23], M)) rfl ?_
  refine pm_icL (as := [.ref 23, .int (M.1 23 1), .int (M.1 23 2), .int (M.1 23 0)]) (rest := []) rfl rfl rfl rfl (Nat.le_of_ble_eq_true rfl) rfl (fun r h => pm_Ev_mono (Nat.le_of_ble_eq_true rfl) (sStates_constantOf_ok (M.1 23 1) (M.1 23 2) (M.1 23 0) M r h)) (fun v2 M1 => ?_)
  show pm_Im _ _ _ _ _ _ (16, [some (.ref 23)], [.long v2], M1)
  exact pm_irL rfl rfl
def sC_mean (a1 : Int32) (a2 : Int32) (a3 : Int32) (a4 : Int32) (M : pm_M) : Option (Int64 × pm_M) := pm_bd (sC_isClass a1 M) fun v2 M1 => if v2 = 0 then (some ((-4611686018427387904 : Int64), M1)) else (pm_bd (sNet_hasStation_1 a2 M1) fun v4 M3 => if v4 = 0 then (some ((-4611686018427387904 : Int64), M3)) else (if a3 < 0 then (some ((-4611686018427387904 : Int64), M3)) else (if (2 : Int32) < a3 then (some ((-4611686018427387904 : Int64), M3)) else (pm_bd (sC_isLine a4 M3) fun v6 M5 => if ¬ v6 = 0 then (pm_bd (sTours_isSound M5) fun v8 M7 => if ¬ v8 = 0 then (if pm_in a1 2 then (pm_lt ((M7.1 5 a1.toNatClampNeg)) fun x9 => if ¬ x9 = 0 then (pm_bd (sTours_visitsOf a1 a2 M7) fun v11 M10 => pm_bd (sStates_rateAbove a1 M10) fun v13 M12 => pm_lt ((v11 * v13)) fun x14 => if ¬ a3 = 0 then (pm_jn (fun (M16 : pm_M) => pm_bd (sStates_numberAbove a1 a2 M16) fun v18 M17 => pm_jn (fun (q21 : Int64) (M20 : pm_M) => pm_bd (sC_fraction v18 q21 a4 M20) fun v23 M22 => some (v23, M22)) fun (j19 : Int64 → pm_M → Option (Int64 × pm_M)) => if ¬ a3 = (1 : Int32) then (j19 x14 M17) else (pm_bd (sStates_constantOfAll M17) fun v25 M24 => j19 v25 M24)) fun (j15 : pm_M → Option (Int64 × pm_M)) => if ¬ a3 = (2 : Int32) then (j15 M12) else (if ¬ (lg_cmp x14 (0 : Int64)) = 0 then (j15 M12) else (some ((-4611686018427387904 : Int64), M12)))) else (pm_bd (sStates_constantOfAll M12) fun v27 M26 => pm_bd (sC_fraction x14 v27 a4 M26) fun v29 M28 => some (v29, M28))) else (if (2 : Int32) ≤ a3 then (some ((-4611686018427387904 : Int64), M7)) else (pm_bd (sC_fraction (0 : Int64) (1 : Int64) a4 M7) fun v31 M30 => some (v31, M30)))) else none) else (some ((-4611686018427387904 : Int64), M7))) else (some ((-4611686018427387904 : Int64), M5))))))
abbrev I_C_mean (sh : Option (Int64 × pm_M)) (σ : pm_St) : Prop := pm_Im none (pm_Ev 6) pm_T76 (some .long) pm_rL sh σ
set_option maxHeartbeats 4000000 in
set_option maxRecDepth 100000 in
theorem sC_mean_ok (a1 : Int32) (a2 : Int32) (a3 : Int32) (a4 : Int32) (M : pm_M) : ∀ r, sC_mean a1 a2 a3 a4 M = some r → pm_Ev 7 76 [.ref 0, .int a1, .int a2, .int a3, .int a4] M (pm_rL r).1 (pm_rL r).2 := by
  refine pm_meth (al := [some (.ref 0), some (.int a1), some (.int a2), some (.int a3), some (.int a4), none, none, none, none, none]) rfl rfl rfl rfl rfl ?_
  unfold sC_mean
  show I_C_mean _ (0, [some (.ref 0), some (.int a1), some (.int a2), some (.int a3), some (.int a4), none, none, none, none, none], [], M)
  refine pm_irun 1 (σ' := (1, [some (.ref 0), some (.int a1), some (.int a2), some (.int a3), some (.int a4), none, none, none, none, none], [.int a1], M)) rfl ?_
  refine pm_icI (as := [.int a1]) (rest := []) rfl rfl rfl rfl (Nat.le_of_ble_eq_true rfl) rfl (fun r h => pm_Ev_mono (Nat.le_of_ble_eq_true rfl) (sC_isClass_ok a1 M r h)) (fun v2 M1 => ?_)
  show pm_Im _ _ _ _ _ _ (4, [some (.ref 0), some (.int a1), some (.int a2), some (.int a3), some (.int a4), none, none, none, none, none], [.int v2], M1)
  refine pm_iite (σ1 := (35, [some (.ref 0), some (.int a1), some (.int a2), some (.int a3), some (.int a4), none, none, none, none, none], [], M1)) (σ2 := (7, [some (.ref 0), some (.int a1), some (.int a2), some (.int a3), some (.int a4), none, none, none, none, none], [], M1)) rfl (fun _ => ?_) (fun _ => ?_)
  · refine pm_irun 1 (σ' := (38, [some (.ref 0), some (.int a1), some (.int a2), some (.int a3), some (.int a4), none, none, none, none, none], [.long (-4611686018427387904 : Int64)], M1)) rfl ?_
    exact pm_irL rfl rfl
  · refine pm_irun 3 (σ' := (12, [some (.ref 0), some (.int a1), some (.int a2), some (.int a3), some (.int a4), none, none, none, none, none], [.int a2, .ref 1], M1)) rfl ?_
    refine pm_icI (as := [.ref 1, .int a2]) (rest := []) rfl rfl rfl rfl (Nat.le_of_ble_eq_true rfl) rfl (fun r h => pm_Ev_mono (Nat.le_of_ble_eq_true rfl) (sNet_hasStation_1_ok a2 M1 r h)) (fun v4 M3 => ?_)
    show pm_Im _ _ _ _ _ _ (15, [some (.ref 0), some (.int a1), some (.int a2), some (.int a3), some (.int a4), none, none, none, none, none], [.int v4], M3)
    refine pm_iite (σ1 := (35, [some (.ref 0), some (.int a1), some (.int a2), some (.int a3), some (.int a4), none, none, none, none, none], [], M3)) (σ2 := (18, [some (.ref 0), some (.int a1), some (.int a2), some (.int a3), some (.int a4), none, none, none, none, none], [], M3)) rfl (fun _ => ?_) (fun _ => ?_)
    · refine pm_irun 1 (σ' := (38, [some (.ref 0), some (.int a1), some (.int a2), some (.int a3), some (.int a4), none, none, none, none, none], [.long (-4611686018427387904 : Int64)], M3)) rfl ?_
      exact pm_irL rfl rfl
    · refine pm_irun 1 (σ' := (19, [some (.ref 0), some (.int a1), some (.int a2), some (.int a3), some (.int a4), none, none, none, none, none], [.int a3], M3)) rfl ?_
      refine pm_iite (σ1 := (35, [some (.ref 0), some (.int a1), some (.int a2), some (.int a3), some (.int a4), none, none, none, none, none], [], M3)) (σ2 := (22, [some (.ref 0), some (.int a1), some (.int a2), some (.int a3), some (.int a4), none, none, none, none, none], [], M3)) rfl (fun _ => ?_) (fun _ => ?_)
      · refine pm_irun 1 (σ' := (38, [some (.ref 0), some (.int a1), some (.int a2), some (.int a3), some (.int a4), none, none, none, none, none], [.long (-4611686018427387904 : Int64)], M3)) rfl ?_
        exact pm_irL rfl rfl
      · refine pm_irun 2 (σ' := (24, [some (.ref 0), some (.int a1), some (.int a2), some (.int a3), some (.int a4), none, none, none, none, none], [.int (2 : Int32), .int a3], M3)) rfl ?_
        refine pm_iite (σ1 := (35, [some (.ref 0), some (.int a1), some (.int a2), some (.int a3), some (.int a4), none, none, none, none, none], [], M3)) (σ2 := (27, [some (.ref 0), some (.int a1), some (.int a2), some (.int a3), some (.int a4), none, none, none, none, none], [], M3)) rfl (fun _ => ?_) (fun _ => ?_)
        · refine pm_irun 1 (σ' := (38, [some (.ref 0), some (.int a1), some (.int a2), some (.int a3), some (.int a4), none, none, none, none, none], [.long (-4611686018427387904 : Int64)], M3)) rfl ?_
          exact pm_irL rfl rfl
        · refine pm_irun 1 (σ' := (29, [some (.ref 0), some (.int a1), some (.int a2), some (.int a3), some (.int a4), none, none, none, none, none], [.int a4], M3)) rfl ?_
          refine pm_icI (as := [.int a4]) (rest := []) rfl rfl rfl rfl (Nat.le_of_ble_eq_true rfl) rfl (fun r h => pm_Ev_mono (Nat.le_of_ble_eq_true rfl) (sC_isLine_ok a4 M3 r h)) (fun v6 M5 => ?_)
          show pm_Im _ _ _ _ _ _ (32, [some (.ref 0), some (.int a1), some (.int a2), some (.int a3), some (.int a4), none, none, none, none, none], [.int v6], M5)
          refine pm_iite (σ1 := (39, [some (.ref 0), some (.int a1), some (.int a2), some (.int a3), some (.int a4), none, none, none, none, none], [], M5)) (σ2 := (35, [some (.ref 0), some (.int a1), some (.int a2), some (.int a3), some (.int a4), none, none, none, none, none], [], M5)) rfl (fun _ => ?_) (fun _ => ?_)
          · refine pm_irun 2 (σ' := (43, [some (.ref 0), some (.int a1), some (.int a2), some (.int a3), some (.int a4), none, none, none, none, none], [.ref 15], M5)) rfl ?_
            refine pm_icI (as := [.ref 15]) (rest := []) rfl rfl rfl rfl (Nat.le_of_ble_eq_true rfl) rfl (fun r h => pm_Ev_mono (Nat.le_of_ble_eq_true rfl) (sTours_isSound_ok M5 r h)) (fun v8 M7 => ?_)
            show pm_Im _ _ _ _ _ _ (46, [some (.ref 0), some (.int a1), some (.int a2), some (.int a3), some (.int a4), none, none, none, none, none], [.int v8], M7)
            refine pm_iite (σ1 := (53, [some (.ref 0), some (.int a1), some (.int a2), some (.int a3), some (.int a4), none, none, none, none, none], [], M7)) (σ2 := (49, [some (.ref 0), some (.int a1), some (.int a2), some (.int a3), some (.int a4), none, none, none, none, none], [], M7)) rfl (fun _ => ?_) (fun _ => ?_)
            · refine pm_irun 4 (σ' := (61, [some (.ref 0), some (.int a1), some (.int a2), some (.int a3), some (.int a4), none, none, none, none, none], [.int a1, .ref 5], M7)) rfl ?_
              refine pm_igd (σ1 := (62, [some (.ref 0), some (.int a1), some (.int a2), some (.int a3), some (.int a4), none, none, none, none, none], [.int (M7.1 5 a1.toNatClampNeg)], M7)) rfl (fun _ => ?_)
              refine pm_irun 1 (σ' := (64, [some (.ref 0), some (.int a1), some (.int a2), some (.int a3), some (.int a4), some (.int (M7.1 5 a1.toNatClampNeg)), none, none, none, none], [], M7)) rfl ?_
              refine pm_ilt (fun y => (64, [some (.ref 0), some (.int a1), some (.int a2), some (.int a3), some (.int a4), some (.int y), none, none, none, none], [], M7)) (fun x9 => ?_)
              refine pm_irun 1 (σ' := (66, [some (.ref 0), some (.int a1), some (.int a2), some (.int a3), some (.int a4), some (.int x9), none, none, none, none], [.int x9], M7)) rfl ?_
              refine pm_iite (σ1 := (88, [some (.ref 0), some (.int a1), some (.int a2), some (.int a3), some (.int a4), some (.int x9), none, none, none, none], [], M7)) (σ2 := (69, [some (.ref 0), some (.int a1), some (.int a2), some (.int a3), some (.int a4), some (.int x9), none, none, none, none], [], M7)) rfl (fun _ => ?_) (fun _ => ?_)
              · refine pm_irun 4 (σ' := (94, [some (.ref 0), some (.int a1), some (.int a2), some (.int a3), some (.int a4), some (.int x9), none, none, none, none], [.int a2, .int a1, .ref 15], M7)) rfl ?_
                refine pm_icL (as := [.ref 15, .int a1, .int a2]) (rest := []) rfl rfl rfl rfl (Nat.le_of_ble_eq_true rfl) rfl (fun r h => pm_Ev_mono (Nat.le_of_ble_eq_true rfl) (sTours_visitsOf_ok a1 a2 M7 r h)) (fun v11 M10 => ?_)
                show pm_Im _ _ _ _ _ _ (97, [some (.ref 0), some (.int a1), some (.int a2), some (.int a3), some (.int a4), some (.int x9), none, none, none, none], [.long v11], M10)
                refine pm_irun 3 (σ' := (102, [some (.ref 0), some (.int a1), some (.int a2), some (.int a3), some (.int a4), some (.int x9), none, none, none, none], [.int a1, .ref 23, .long v11], M10)) rfl ?_
                refine pm_icL (as := [.ref 23, .int a1]) (rest := [.long v11]) rfl rfl rfl rfl (Nat.le_of_ble_eq_true rfl) rfl (fun r h => pm_Ev_mono (Nat.le_of_ble_eq_true rfl) (sStates_rateAbove_ok a1 M10 r h)) (fun v13 M12 => ?_)
                show pm_Im _ _ _ _ _ _ (105, [some (.ref 0), some (.int a1), some (.int a2), some (.int a3), some (.int a4), some (.int x9), none, none, none, none], [.long v13, .long v11], M12)
                refine pm_irun 2 (σ' := (108, [some (.ref 0), some (.int a1), some (.int a2), some (.int a3), some (.int a4), some (.int x9), some (.long (v11 * v13)), none, none, none], [], M12)) rfl ?_
                refine pm_ilt (fun y => (108, [some (.ref 0), some (.int a1), some (.int a2), some (.int a3), some (.int a4), some (.int x9), some (.long y), none, none, none], [], M12)) (fun x14 => ?_)
                refine pm_irun 1 (σ' := (109, [some (.ref 0), some (.int a1), some (.int a2), some (.int a3), some (.int a4), some (.int x9), some (.long x14), none, none, none], [.int a3], M12)) rfl ?_
                refine pm_iite (σ1 := (127, [some (.ref 0), some (.int a1), some (.int a2), some (.int a3), some (.int a4), some (.int x9), some (.long x14), none, none, none], [], M12)) (σ2 := (112, [some (.ref 0), some (.int a1), some (.int a2), some (.int a3), some (.int a4), some (.int x9), some (.long x14), none, none, none], [], M12)) rfl (fun _ => ?_) (fun _ => ?_)
                · refine pm_irun 2 (σ' := (129, [some (.ref 0), some (.int a1), some (.int a2), some (.int a3), some (.int a4), some (.int x9), some (.long x14), none, none, none], [.int (2 : Int32), .int a3], M12)) rfl ?_
                  refine pm_ijn (fun (g : pm_M → Option (Int64 × pm_M)) => ∀ (M16 : pm_M), I_C_mean (g M16) (143, [some (.ref 0), some (.int a1), some (.int a2), some (.int a3), some (.int a4), none, some (.long x14), none, none, none], [], M16)) (fun (M16 : pm_M) => ?_) (fun j15 hj15 => ?_)
                  · show I_C_mean _ (143, [some (.ref 0), some (.int a1), some (.int a2), some (.int a3), some (.int a4), none, some (.long x14), none, none, none], [], M16)
                    refine pm_irun 4 (σ' := (149, [some (.ref 0), some (.int a1), some (.int a2), some (.int a3), some (.int a4), none, some (.long x14), none, none, none], [.int a2, .int a1, .ref 23], M16)) rfl ?_
                    refine pm_icL (as := [.ref 23, .int a1, .int a2]) (rest := []) rfl rfl rfl rfl (Nat.le_of_ble_eq_true rfl) rfl (fun r h => pm_Ev_mono (Nat.le_of_ble_eq_true rfl) (sStates_numberAbove_ok a1 a2 M16 r h)) (fun v18 M17 => ?_)
                    show pm_Im _ _ _ _ _ _ (152, [some (.ref 0), some (.int a1), some (.int a2), some (.int a3), some (.int a4), none, some (.long x14), none, none, none], [.long v18], M17)
                    refine pm_irun 1 (σ' := (154, [some (.ref 0), some (.int a1), some (.int a2), some (.int a3), some (.int a4), none, some (.long x14), none, some (.long v18), none], [], M17)) rfl ?_
                    refine pm_irun 3 (σ' := (158, [some (.ref 0), some (.int a1), some (.int a2), some (.int a3), some (.int a4), none, some (.long x14), none, some (.long v18), none], [.int (1 : Int32), .int a3, .long v18], M17)) rfl ?_
                    refine pm_ijn (fun (g : Int64 → pm_M → Option (Int64 × pm_M)) => ∀ (q21 : Int64) (M20 : pm_M), I_C_mean (g q21 M20) (173, [none, none, none, none, some (.int a4), none, none, none, none, none], [.long q21, .long v18], M20)) (fun (q21 : Int64) (M20 : pm_M) => ?_) (fun j19 hj19 => ?_)
                    · show I_C_mean _ (173, [none, none, none, none, some (.int a4), none, none, none, none, none], [.long q21, .long v18], M20)
                      refine pm_irun 1 (σ' := (175, [none, none, none, none, some (.int a4), none, none, none, none, none], [.int a4, .long q21, .long v18], M20)) rfl ?_
                      refine pm_icL (as := [.long v18, .long q21, .int a4]) (rest := []) rfl rfl rfl rfl (Nat.le_of_ble_eq_true rfl) rfl (fun r h => pm_Ev_mono (Nat.le_of_ble_eq_true rfl) (sC_fraction_ok v18 q21 a4 M20 r h)) (fun v23 M22 => ?_)
                      show pm_Im _ _ _ _ _ _ (178, [none, none, none, none, some (.int a4), none, none, none, none, none], [.long v23], M22)
                      exact pm_irL rfl rfl
                    refine pm_iite (σ1 := (171, [some (.ref 0), some (.int a1), some (.int a2), some (.int a3), some (.int a4), none, some (.long x14), none, some (.long v18), none], [.long v18], M17)) (σ2 := (161, [some (.ref 0), some (.int a1), some (.int a2), some (.int a3), some (.int a4), none, some (.long x14), none, some (.long v18), none], [.long v18], M17)) rfl (fun _ => ?_) (fun _ => ?_)
                    · refine pm_irun 1 (σ' := (173, [some (.ref 0), some (.int a1), some (.int a2), some (.int a3), some (.int a4), none, some (.long x14), none, some (.long v18), none], [.long x14, .long v18], M17)) rfl ?_
                      refine pm_iwk (al' := [none, none, none, none, some (.int a4), none, none, none, none, none]) (pm_wkN (pm_wkN (pm_wkN (pm_wkN (pm_wkS (pm_wkS (pm_wkN (pm_wkS (pm_wkN (pm_wkS pm_wk0)))))))))) ?_
                      exact hj19 _ _
                    · refine pm_irun 2 (σ' := (165, [some (.ref 0), some (.int a1), some (.int a2), some (.int a3), some (.int a4), none, some (.long x14), none, some (.long v18), none], [.ref 23, .long v18], M17)) rfl ?_
                      refine pm_icL (as := [.ref 23]) (rest := [.long v18]) rfl rfl rfl rfl (Nat.le_of_ble_eq_true rfl) rfl (fun r h => pm_Ev_mono (Nat.le_of_ble_eq_true rfl) (sStates_constantOfAll_ok M17 r h)) (fun v25 M24 => ?_)
                      show pm_Im _ _ _ _ _ _ (168, [some (.ref 0), some (.int a1), some (.int a2), some (.int a3), some (.int a4), none, some (.long x14), none, some (.long v18), none], [.long v25, .long v18], M24)
                      refine pm_irun 1 (σ' := (173, [some (.ref 0), some (.int a1), some (.int a2), some (.int a3), some (.int a4), none, some (.long x14), none, some (.long v18), none], [.long v25, .long v18], M24)) rfl ?_
                      refine pm_iwk (al' := [none, none, none, none, some (.int a4), none, none, none, none, none]) (pm_wkN (pm_wkN (pm_wkN (pm_wkN (pm_wkS (pm_wkS (pm_wkN (pm_wkS (pm_wkN (pm_wkS pm_wk0)))))))))) ?_
                      exact hj19 _ _
                  refine pm_iite (σ1 := (143, [some (.ref 0), some (.int a1), some (.int a2), some (.int a3), some (.int a4), some (.int x9), some (.long x14), none, none, none], [], M12)) (σ2 := (132, [some (.ref 0), some (.int a1), some (.int a2), some (.int a3), some (.int a4), some (.int x9), some (.long x14), none, none, none], [], M12)) rfl (fun _ => ?_) (fun _ => ?_)
                  · refine pm_iwk (al' := [some (.ref 0), some (.int a1), some (.int a2), some (.int a3), some (.int a4), none, some (.long x14), none, none, none]) (pm_wkS (pm_wkS (pm_wkS (pm_wkS (pm_wkS (pm_wkN (pm_wkS (pm_wkS (pm_wkS (pm_wkS pm_wk0)))))))))) ?_
                    exact hj15 _
                  · refine pm_irun 3 (σ' := (136, [some (.ref 0), some (.int a1), some (.int a2), some (.int a3), some (.int a4), some (.int x9), some (.long x14), none, none, none], [.int (lg_cmp x14 (0 : Int64))], M12)) rfl ?_
                    refine pm_iite (σ1 := (143, [some (.ref 0), some (.int a1), some (.int a2), some (.int a3), some (.int a4), some (.int x9), some (.long x14), none, none, none], [], M12)) (σ2 := (139, [some (.ref 0), some (.int a1), some (.int a2), some (.int a3), some (.int a4), some (.int x9), some (.long x14), none, none, none], [], M12)) rfl (fun _ => ?_) (fun _ => ?_)
                    · refine pm_iwk (al' := [some (.ref 0), some (.int a1), some (.int a2), some (.int a3), some (.int a4), none, some (.long x14), none, none, none]) (pm_wkS (pm_wkS (pm_wkS (pm_wkS (pm_wkS (pm_wkN (pm_wkS (pm_wkS (pm_wkS (pm_wkS pm_wk0)))))))))) ?_
                      exact hj15 _
                    · refine pm_irun 1 (σ' := (142, [some (.ref 0), some (.int a1), some (.int a2), some (.int a3), some (.int a4), some (.int x9), some (.long x14), none, none, none], [.long (-4611686018427387904 : Int64)], M12)) rfl ?_
                      exact pm_irL rfl rfl
                · refine pm_irun 3 (σ' := (118, [some (.ref 0), some (.int a1), some (.int a2), some (.int a3), some (.int a4), some (.int x9), some (.long x14), none, none, none], [.ref 23, .long x14], M12)) rfl ?_
                  refine pm_icL (as := [.ref 23]) (rest := [.long x14]) rfl rfl rfl rfl (Nat.le_of_ble_eq_true rfl) rfl (fun r h => pm_Ev_mono (Nat.le_of_ble_eq_true rfl) (sStates_constantOfAll_ok M12 r h)) (fun v27 M26 => ?_)
                  show pm_Im _ _ _ _ _ _ (121, [some (.ref 0), some (.int a1), some (.int a2), some (.int a3), some (.int a4), some (.int x9), some (.long x14), none, none, none], [.long v27, .long x14], M26)
                  refine pm_irun 1 (σ' := (123, [some (.ref 0), some (.int a1), some (.int a2), some (.int a3), some (.int a4), some (.int x9), some (.long x14), none, none, none], [.int a4, .long v27, .long x14], M26)) rfl ?_
                  refine pm_icL (as := [.long x14, .long v27, .int a4]) (rest := []) rfl rfl rfl rfl (Nat.le_of_ble_eq_true rfl) rfl (fun r h => pm_Ev_mono (Nat.le_of_ble_eq_true rfl) (sC_fraction_ok x14 v27 a4 M26 r h)) (fun v29 M28 => ?_)
                  show pm_Im _ _ _ _ _ _ (126, [some (.ref 0), some (.int a1), some (.int a2), some (.int a3), some (.int a4), some (.int x9), some (.long x14), none, none, none], [.long v29], M28)
                  exact pm_irL rfl rfl
              · refine pm_irun 2 (σ' := (71, [some (.ref 0), some (.int a1), some (.int a2), some (.int a3), some (.int a4), some (.int x9), none, none, none, none], [.int (2 : Int32), .int a3], M7)) rfl ?_
                refine pm_iite (σ1 := (84, [some (.ref 0), some (.int a1), some (.int a2), some (.int a3), some (.int a4), some (.int x9), none, none, none, none], [], M7)) (σ2 := (74, [some (.ref 0), some (.int a1), some (.int a2), some (.int a3), some (.int a4), some (.int x9), none, none, none, none], [], M7)) rfl (fun _ => ?_) (fun _ => ?_)
                · refine pm_irun 1 (σ' := (87, [some (.ref 0), some (.int a1), some (.int a2), some (.int a3), some (.int a4), some (.int x9), none, none, none, none], [.long (-4611686018427387904 : Int64)], M7)) rfl ?_
                  exact pm_irL rfl rfl
                · refine pm_irun 3 (σ' := (78, [some (.ref 0), some (.int a1), some (.int a2), some (.int a3), some (.int a4), some (.int x9), none, none, none, none], [.int a4, .long (1 : Int64), .long (0 : Int64)], M7)) rfl ?_
                  refine pm_icL (as := [.long (0 : Int64), .long (1 : Int64), .int a4]) (rest := []) rfl rfl rfl rfl (Nat.le_of_ble_eq_true rfl) rfl (fun r h => pm_Ev_mono (Nat.le_of_ble_eq_true rfl) (sC_fraction_ok (0 : Int64) (1 : Int64) a4 M7 r h)) (fun v31 M30 => ?_)
                  show pm_Im _ _ _ _ _ _ (81, [some (.ref 0), some (.int a1), some (.int a2), some (.int a3), some (.int a4), some (.int x9), none, none, none, none], [.long v31], M30)
                  refine pm_irun 1 (σ' := (87, [some (.ref 0), some (.int a1), some (.int a2), some (.int a3), some (.int a4), some (.int x9), none, none, none, none], [.long v31], M30)) rfl ?_
                  exact pm_irL rfl rfl
            · refine pm_irun 1 (σ' := (52, [some (.ref 0), some (.int a1), some (.int a2), some (.int a3), some (.int a4), none, none, none, none, none], [.long (-4611686018427387904 : Int64)], M7)) rfl ?_
              exact pm_irL rfl rfl
          · refine pm_irun 1 (σ' := (38, [some (.ref 0), some (.int a1), some (.int a2), some (.int a3), some (.int a4), none, none, none, none, none], [.long (-4611686018427387904 : Int64)], M5)) rfl ?_
            exact pm_irL rfl rfl
def sR_numberAbove (a1 : Int32) (a2 : Int32) (M : pm_M) : Option (Int64 × pm_M) := pm_bv (sR_constants (M.1 49 1) a2 M) fun M1 => pm_loop (fun _ _ _ => none) (fun (g2 : Int64 → Int32 → pm_M → Option (Int64 × pm_M)) x4 x5 M3 => if (M3.1 53 0) < x5 then (some (x4, M3)) else (pm_loop (fun _ _ _ => none) (fun (g6 : Int64 → Int32 → pm_M → Option (Int64 × pm_M)) x8 x9 M7 => if (M7.1 53 1) < x9 then (pm_lt ((x5 + (1 : Int32))) fun x10 => g2 x8 x10 M7) else (pm_bd (sR_whole ((M7.1 53 0) - x5) ((M7.1 53 1) - x9) M7) fun v12 M11 => if (lg_cmp v12 (0 : Int64)) = 0 then (pm_lt ((x9 + (1 : Int32))) fun x13 => g6 x8 x13 M11) else (pm_jn (fun (q16 : Int32) (M15 : pm_M) => pm_bd (sR_choose (M15.1 53 0) x5 M15) fun v18 M17 => pm_bd (sR_choose (M17.1 53 1) x9 M17) fun v20 M19 => pm_bd (sR_heap a2 x5 x9 M19) fun v22 M21 => pm_lt ((x8 + ((((q16.toInt64 * v18) * v20) * v22) * v12))) fun x23 => pm_lt ((x9 + (1 : Int32))) fun x24 => g6 x23 x24 M21) fun (j14 : Int32 → pm_M → Option (Int64 × pm_M)) => if ¬ a1 = 0 then (j14 x9 M11) else (j14 x5 M11)))) 1000000 x4 (0 : Int32) M3)) 1000000 (0 : Int64) (0 : Int32) M1
abbrev I_R_numberAbove (sh : Option (Int64 × pm_M)) (σ : pm_St) : Prop := pm_Im none (pm_Ev 4) pm_T170 (some .long) pm_rL sh σ
set_option maxHeartbeats 4000000 in
set_option maxRecDepth 100000 in
theorem sR_numberAbove_ok (a1 : Int32) (a2 : Int32) (M : pm_M) : ∀ r, sR_numberAbove a1 a2 M = some r → pm_Ev 5 170 [.ref 49, .int a1, .int a2] M (pm_rL r).1 (pm_rL r).2 := by
  refine pm_meth (al := [some (.ref 49), some (.int a1), some (.int a2), none, none, none, none, none, none]) rfl rfl rfl rfl rfl ?_
  unfold sR_numberAbove
  show I_R_numberAbove _ (0, [some (.ref 49), some (.int a1), some (.int a2), none, none, none, none, none, none], [], M)
  refine pm_irun 4 (σ' := (6, [some (.ref 49), some (.int a1), some (.int a2), none, none, none, none, none, none], [.int a2, .int (M.1 49 1), .ref 49], M)) rfl ?_
  refine pm_icV (as := [.ref 49, .int (M.1 49 1), .int a2]) (rest := []) rfl rfl rfl rfl (Nat.le_of_ble_eq_true rfl) rfl (fun r h => pm_Ev_mono (Nat.le_of_ble_eq_true rfl) (sR_constants_ok (M.1 49 1) a2 M r h)) (fun M1 => ?_)
  show pm_Im _ _ _ _ _ _ (9, [some (.ref 49), some (.int a1), some (.int a2), none, none, none, none, none, none], [], M1)
  refine pm_irun 2 (σ' := (11, [some (.ref 49), some (.int a1), some (.int a2), some (.long (0 : Int64)), none, none, none, none, none], [], M1)) rfl ?_
  refine pm_irun 2 (σ' := (14, [some (.ref 49), some (.int a1), some (.int a2), some (.long (0 : Int64)), none, some (.int (0 : Int32)), none, none, none], [], M1)) rfl ?_
  refine pm_iloop (fun (g : Int64 → Int32 → pm_M → Option (Int64 × pm_M)) => ∀ (x4 : Int64) (x5 : Int32) (M3 : pm_M), I_R_numberAbove (g x4 x5 M3) (14, [some (.ref 49), some (.int a1), some (.int a2), some (.long x4), none, some (.int x5), none, none, none], [], M3)) (fun _ _ _ => pm_inone) (fun g2 hg2 x4 x5 M3 => ?_) 1000000 _ _ _
  show I_R_numberAbove _ (14, [some (.ref 49), some (.int a1), some (.int a2), some (.long x4), none, some (.int x5), none, none, none], [], M3)
  refine pm_irun 4 (σ' := (21, [some (.ref 49), some (.int a1), some (.int a2), some (.long x4), none, some (.int x5), none, none, none], [.int (0 : Int32), .ref 53, .int x5], M3)) rfl ?_
  refine pm_igt (c := pm_in (0 : Int32) 2) (σ1 := (22, [some (.ref 49), some (.int a1), some (.int a2), some (.long x4), none, some (.int x5), none, none, none], [.int (M3.1 53 0), .int x5], M3)) (by decide) rfl ?_
  refine pm_iite (σ1 := (136, [some (.ref 49), some (.int a1), some (.int a2), some (.long x4), none, some (.int x5), none, none, none], [], M3)) (σ2 := (25, [some (.ref 49), some (.int a1), some (.int a2), some (.long x4), none, some (.int x5), none, none, none], [], M3)) rfl (fun _ => ?_) (fun _ => ?_)
  · refine pm_irun 1 (σ' := (137, [some (.ref 49), some (.int a1), some (.int a2), some (.long x4), none, some (.int x5), none, none, none], [.long x4], M3)) rfl ?_
    exact pm_irL rfl rfl
  · refine pm_irun 2 (σ' := (28, [some (.ref 49), some (.int a1), some (.int a2), some (.long x4), none, some (.int x5), some (.int (0 : Int32)), none, none], [], M3)) rfl ?_
    refine pm_iloop (fun (g : Int64 → Int32 → pm_M → Option (Int64 × pm_M)) => ∀ (x8 : Int64) (x9 : Int32) (M7 : pm_M), I_R_numberAbove (g x8 x9 M7) (28, [some (.ref 49), some (.int a1), some (.int a2), some (.long x8), none, some (.int x5), some (.int x9), none, none], [], M7)) (fun _ _ _ => pm_inone) (fun g6 hg6 x8 x9 M7 => ?_) 1000000 _ _ _
    show I_R_numberAbove _ (28, [some (.ref 49), some (.int a1), some (.int a2), some (.long x8), none, some (.int x5), some (.int x9), none, none], [], M7)
    refine pm_irun 4 (σ' := (35, [some (.ref 49), some (.int a1), some (.int a2), some (.long x8), none, some (.int x5), some (.int x9), none, none], [.int (1 : Int32), .ref 53, .int x9], M7)) rfl ?_
    refine pm_igt (c := pm_in (1 : Int32) 2) (σ1 := (36, [some (.ref 49), some (.int a1), some (.int a2), some (.long x8), none, some (.int x5), some (.int x9), none, none], [.int (M7.1 53 1), .int x9], M7)) (by decide) rfl ?_
    refine pm_iite (σ1 := (130, [some (.ref 49), some (.int a1), some (.int a2), some (.long x8), none, some (.int x5), some (.int x9), none, none], [], M7)) (σ2 := (39, [some (.ref 49), some (.int a1), some (.int a2), some (.long x8), none, some (.int x5), some (.int x9), none, none], [], M7)) rfl (fun _ => ?_) (fun _ => ?_)
    · refine pm_irun 1 (σ' := (133, [some (.ref 49), some (.int a1), some (.int a2), some (.long x8), none, some (.int (x5 + (1 : Int32))), some (.int x9), none, none], [], M7)) rfl ?_
      refine pm_ilt (fun y => (133, [some (.ref 49), some (.int a1), some (.int a2), some (.long x8), none, some (.int y), some (.int x9), none, none], [], M7)) (fun x10 => ?_)
      refine pm_irun 1 (σ' := (14, [some (.ref 49), some (.int a1), some (.int a2), some (.long x8), none, some (.int x10), some (.int x9), none, none], [], M7)) rfl ?_
      refine pm_iwk (al' := [some (.ref 49), some (.int a1), some (.int a2), some (.long x8), none, some (.int x10), none, none, none]) (pm_wkS (pm_wkS (pm_wkS (pm_wkS (pm_wkS (pm_wkS (pm_wkN (pm_wkS (pm_wkS pm_wk0))))))))) ?_
      exact hg2 _ _ _
    · refine pm_irun 4 (σ' := (45, [some (.ref 49), some (.int a1), some (.int a2), some (.long x8), none, some (.int x5), some (.int x9), none, none], [.int (0 : Int32), .ref 53, .ref 49], M7)) rfl ?_
      refine pm_igt (c := pm_in (0 : Int32) 2) (σ1 := (46, [some (.ref 49), some (.int a1), some (.int a2), some (.long x8), none, some (.int x5), some (.int x9), none, none], [.int (M7.1 53 0), .ref 49], M7)) (by decide) rfl ?_
      refine pm_irun 5 (σ' := (54, [some (.ref 49), some (.int a1), some (.int a2), some (.long x8), none, some (.int x5), some (.int x9), none, none], [.int (1 : Int32), .ref 53, .int ((M7.1 53 0) - x5), .ref 49], M7)) rfl ?_
      refine pm_igt (c := pm_in (1 : Int32) 2) (σ1 := (55, [some (.ref 49), some (.int a1), some (.int a2), some (.long x8), none, some (.int x5), some (.int x9), none, none], [.int (M7.1 53 1), .int ((M7.1 53 0) - x5), .ref 49], M7)) (by decide) rfl ?_
      refine pm_irun 2 (σ' := (58, [some (.ref 49), some (.int a1), some (.int a2), some (.long x8), none, some (.int x5), some (.int x9), none, none], [.int ((M7.1 53 1) - x9), .int ((M7.1 53 0) - x5), .ref 49], M7)) rfl ?_
      refine pm_icL (as := [.ref 49, .int ((M7.1 53 0) - x5), .int ((M7.1 53 1) - x9)]) (rest := []) rfl rfl rfl rfl (Nat.le_of_ble_eq_true rfl) rfl (fun r h => pm_Ev_mono (Nat.le_of_ble_eq_true rfl) (sR_whole_ok ((M7.1 53 0) - x5) ((M7.1 53 1) - x9) M7 r h)) (fun v12 M11 => ?_)
      show pm_Im _ _ _ _ _ _ (61, [some (.ref 49), some (.int a1), some (.int a2), some (.long x8), none, some (.int x5), some (.int x9), none, none], [.long v12], M11)
      refine pm_irun 1 (σ' := (63, [some (.ref 49), some (.int a1), some (.int a2), some (.long x8), none, some (.int x5), some (.int x9), some (.long v12), none], [], M11)) rfl ?_
      refine pm_irun 3 (σ' := (67, [some (.ref 49), some (.int a1), some (.int a2), some (.long x8), none, some (.int x5), some (.int x9), some (.long v12), none], [.int (lg_cmp v12 (0 : Int64))], M11)) rfl ?_
      refine pm_iite (σ1 := (124, [some (.ref 49), some (.int a1), some (.int a2), some (.long x8), none, some (.int x5), some (.int x9), some (.long v12), none], [], M11)) (σ2 := (70, [some (.ref 49), some (.int a1), some (.int a2), some (.long x8), none, some (.int x5), some (.int x9), some (.long v12), none], [], M11)) rfl (fun _ => ?_) (fun _ => ?_)
      · refine pm_irun 1 (σ' := (127, [some (.ref 49), some (.int a1), some (.int a2), some (.long x8), none, some (.int x5), some (.int (x9 + (1 : Int32))), some (.long v12), none], [], M11)) rfl ?_
        refine pm_ilt (fun y => (127, [some (.ref 49), some (.int a1), some (.int a2), some (.long x8), none, some (.int x5), some (.int y), some (.long v12), none], [], M11)) (fun x13 => ?_)
        refine pm_irun 1 (σ' := (28, [some (.ref 49), some (.int a1), some (.int a2), some (.long x8), none, some (.int x5), some (.int x13), some (.long v12), none], [], M11)) rfl ?_
        refine pm_iwk (al' := [some (.ref 49), some (.int a1), some (.int a2), some (.long x8), none, some (.int x5), some (.int x13), none, none]) (pm_wkS (pm_wkS (pm_wkS (pm_wkS (pm_wkS (pm_wkS (pm_wkS (pm_wkN (pm_wkS pm_wk0))))))))) ?_
        exact hg6 _ _ _
      · refine pm_irun 2 (σ' := (72, [some (.ref 49), some (.int a1), some (.int a2), some (.long x8), none, some (.int x5), some (.int x9), some (.long v12), none], [.int a1, .long x8], M11)) rfl ?_
        refine pm_ijn (fun (g : Int32 → pm_M → Option (Int64 × pm_M)) => ∀ (q16 : Int32) (M15 : pm_M), I_R_numberAbove (g q16 M15) (82, [some (.ref 49), some (.int a1), some (.int a2), none, none, some (.int x5), some (.int x9), some (.long v12), none], [.int q16, .long x8], M15)) (fun (q16 : Int32) (M15 : pm_M) => ?_) (fun j14 hj14 => ?_)
        · show I_R_numberAbove _ (82, [some (.ref 49), some (.int a1), some (.int a2), none, none, some (.int x5), some (.int x9), some (.long v12), none], [.int q16, .long x8], M15)
          refine pm_irun 5 (σ' := (89, [some (.ref 49), some (.int a1), some (.int a2), none, none, some (.int x5), some (.int x9), some (.long v12), none], [.int (0 : Int32), .ref 53, .ref 49, .long q16.toInt64, .long x8], M15)) rfl ?_
          refine pm_igt (c := pm_in (0 : Int32) 2) (σ1 := (90, [some (.ref 49), some (.int a1), some (.int a2), none, none, some (.int x5), some (.int x9), some (.long v12), none], [.int (M15.1 53 0), .ref 49, .long q16.toInt64, .long x8], M15)) (by decide) rfl ?_
          refine pm_irun 1 (σ' := (92, [some (.ref 49), some (.int a1), some (.int a2), none, none, some (.int x5), some (.int x9), some (.long v12), none], [.int x5, .int (M15.1 53 0), .ref 49, .long q16.toInt64, .long x8], M15)) rfl ?_
          refine pm_icL (as := [.ref 49, .int (M15.1 53 0), .int x5]) (rest := [.long q16.toInt64, .long x8]) rfl rfl rfl rfl (Nat.le_of_ble_eq_true rfl) rfl (fun r h => pm_Ev_mono (Nat.le_of_ble_eq_true rfl) (sR_choose_ok (M15.1 53 0) x5 M15 r h)) (fun v18 M17 => ?_)
          show pm_Im _ _ _ _ _ _ (95, [some (.ref 49), some (.int a1), some (.int a2), none, none, some (.int x5), some (.int x9), some (.long v12), none], [.long v18, .long q16.toInt64, .long x8], M17)
          refine pm_irun 5 (σ' := (102, [some (.ref 49), some (.int a1), some (.int a2), none, none, some (.int x5), some (.int x9), some (.long v12), none], [.int (1 : Int32), .ref 53, .ref 49, .long (q16.toInt64 * v18), .long x8], M17)) rfl ?_
          refine pm_igt (c := pm_in (1 : Int32) 2) (σ1 := (103, [some (.ref 49), some (.int a1), some (.int a2), none, none, some (.int x5), some (.int x9), some (.long v12), none], [.int (M17.1 53 1), .ref 49, .long (q16.toInt64 * v18), .long x8], M17)) (by decide) rfl ?_
          refine pm_irun 1 (σ' := (105, [some (.ref 49), some (.int a1), some (.int a2), none, none, some (.int x5), some (.int x9), some (.long v12), none], [.int x9, .int (M17.1 53 1), .ref 49, .long (q16.toInt64 * v18), .long x8], M17)) rfl ?_
          refine pm_icL (as := [.ref 49, .int (M17.1 53 1), .int x9]) (rest := [.long (q16.toInt64 * v18), .long x8]) rfl rfl rfl rfl (Nat.le_of_ble_eq_true rfl) rfl (fun r h => pm_Ev_mono (Nat.le_of_ble_eq_true rfl) (sR_choose_ok (M17.1 53 1) x9 M17 r h)) (fun v20 M19 => ?_)
          show pm_Im _ _ _ _ _ _ (108, [some (.ref 49), some (.int a1), some (.int a2), none, none, some (.int x5), some (.int x9), some (.long v12), none], [.long v20, .long (q16.toInt64 * v18), .long x8], M19)
          refine pm_irun 5 (σ' := (115, [some (.ref 49), some (.int a1), some (.int a2), none, none, some (.int x5), some (.int x9), some (.long v12), none], [.int x9, .int x5, .int a2, .ref 49, .long ((q16.toInt64 * v18) * v20), .long x8], M19)) rfl ?_
          refine pm_icL (as := [.ref 49, .int a2, .int x5, .int x9]) (rest := [.long ((q16.toInt64 * v18) * v20), .long x8]) rfl rfl rfl rfl (Nat.le_of_ble_eq_true rfl) rfl (fun r h => pm_Ev_mono (Nat.le_of_ble_eq_true rfl) (sR_heap_ok a2 x5 x9 M19 r h)) (fun v22 M21 => ?_)
          show pm_Im _ _ _ _ _ _ (118, [some (.ref 49), some (.int a1), some (.int a2), none, none, some (.int x5), some (.int x9), some (.long v12), none], [.long v22, .long ((q16.toInt64 * v18) * v20), .long x8], M21)
          refine pm_irun 5 (σ' := (124, [some (.ref 49), some (.int a1), some (.int a2), some (.long (x8 + ((((q16.toInt64 * v18) * v20) * v22) * v12))), none, some (.int x5), some (.int x9), some (.long v12), none], [], M21)) rfl ?_
          refine pm_ilt (fun y => (124, [some (.ref 49), some (.int a1), some (.int a2), some (.long y), none, some (.int x5), some (.int x9), some (.long v12), none], [], M21)) (fun x23 => ?_)
          refine pm_irun 1 (σ' := (127, [some (.ref 49), some (.int a1), some (.int a2), some (.long x23), none, some (.int x5), some (.int (x9 + (1 : Int32))), some (.long v12), none], [], M21)) rfl ?_
          refine pm_ilt (fun y => (127, [some (.ref 49), some (.int a1), some (.int a2), some (.long x23), none, some (.int x5), some (.int y), some (.long v12), none], [], M21)) (fun x24 => ?_)
          refine pm_irun 1 (σ' := (28, [some (.ref 49), some (.int a1), some (.int a2), some (.long x23), none, some (.int x5), some (.int x24), some (.long v12), none], [], M21)) rfl ?_
          refine pm_iwk (al' := [some (.ref 49), some (.int a1), some (.int a2), some (.long x23), none, some (.int x5), some (.int x24), none, none]) (pm_wkS (pm_wkS (pm_wkS (pm_wkS (pm_wkS (pm_wkS (pm_wkS (pm_wkN (pm_wkS pm_wk0))))))))) ?_
          exact hg6 _ _ _
        refine pm_iite (σ1 := (80, [some (.ref 49), some (.int a1), some (.int a2), some (.long x8), none, some (.int x5), some (.int x9), some (.long v12), none], [.long x8], M11)) (σ2 := (75, [some (.ref 49), some (.int a1), some (.int a2), some (.long x8), none, some (.int x5), some (.int x9), some (.long v12), none], [.long x8], M11)) rfl (fun _ => ?_) (fun _ => ?_)
        · refine pm_irun 1 (σ' := (82, [some (.ref 49), some (.int a1), some (.int a2), some (.long x8), none, some (.int x5), some (.int x9), some (.long v12), none], [.int x9, .long x8], M11)) rfl ?_
          refine pm_iwk (al' := [some (.ref 49), some (.int a1), some (.int a2), none, none, some (.int x5), some (.int x9), some (.long v12), none]) (pm_wkS (pm_wkS (pm_wkS (pm_wkN (pm_wkS (pm_wkS (pm_wkS (pm_wkS (pm_wkS pm_wk0))))))))) ?_
          exact hj14 _ _
        · refine pm_irun 2 (σ' := (82, [some (.ref 49), some (.int a1), some (.int a2), some (.long x8), none, some (.int x5), some (.int x9), some (.long v12), none], [.int x5, .long x8], M11)) rfl ?_
          refine pm_iwk (al' := [some (.ref 49), some (.int a1), some (.int a2), none, none, some (.int x5), some (.int x9), some (.long v12), none]) (pm_wkS (pm_wkS (pm_wkS (pm_wkN (pm_wkS (pm_wkS (pm_wkS (pm_wkS (pm_wkS pm_wk0))))))))) ?_
          exact hj14 _ _
def sR_mean (a1 : Int32) (a2 : Int32) (a3 : Int32) (a4 : Int32) (M : pm_M) : Option (Int64 × pm_M) := pm_bd (sR_isPart a1 M) fun v2 M1 => if v2 = 0 then (some ((-4611686018427387904 : Int64), M1)) else (pm_bd (sR_isStation a2 M1) fun v4 M3 => if v4 = 0 then (some ((-4611686018427387904 : Int64), M3)) else (pm_bd (sR_in (a3.toInt64) (0 : Int64) (2 : Int64) M3) fun v6 M5 => if v6 = 0 then (some ((-4611686018427387904 : Int64), M5)) else (pm_bd (sR_in (a4.toInt64) (0 : Int64) (1 : Int64) M5) fun v8 M7 => if v8 = 0 then (some ((-4611686018427387904 : Int64), M7)) else (pm_bd (sR_isSound M7) fun v10 M9 => if ¬ v10 = 0 then (pm_bd (sR_numberAbove a1 a2 M9) fun v12 M11 => pm_bv (sR_constants (M11.1 49 1) (-1 : Int32) M11) fun M13 => pm_bd (sR_whole (M13.1 53 0) (M13.1 53 1) M13) fun v15 M14 => if pm_in a1 2 then (pm_jn (fun (q18 : Int64) (M17 : pm_M) => if ¬ a3 = 0 then (if ¬ a3 = (1 : Int32) then (if ¬ (lg_cmp q18 (0 : Int64)) = 0 then (pm_bd (sR_part v12 q18 a4 M17) fun v20 M19 => some (v20, M19)) else (some ((-4611686018427387904 : Int64), M17))) else (pm_bd (sR_part v12 v15 a4 M17) fun v22 M21 => some (v22, M21))) else (pm_bd (sR_part q18 v15 a4 M17) fun v24 M23 => some (v24, M23))) fun (j16 : Int64 → pm_M → Option (Int64 × pm_M)) => if ¬ (M14.1 53 a1.toNatClampNeg) = 0 then (if pm_in (((5 : Int32) * a1) + a2) 10 then (pm_bd (sR_rateAbove a1 (M14.1 53 0) (M14.1 53 1) M14) fun v26 M25 => j16 (((M14.2 59 (((5 : Int32) * a1) + a2).toNatClampNeg) * v26)) M25) else none) else (j16 (0 : Int64) M14)) else none) else (some ((-4611686018427387904 : Int64), M9))))))
abbrev I_R_mean (sh : Option (Int64 × pm_M)) (σ : pm_St) : Prop := pm_Im none (pm_Ev 14) pm_T171 (some .long) pm_rL sh σ
set_option maxHeartbeats 4000000 in
set_option maxRecDepth 100000 in
theorem sR_mean_ok (a1 : Int32) (a2 : Int32) (a3 : Int32) (a4 : Int32) (M : pm_M) : ∀ r, sR_mean a1 a2 a3 a4 M = some r → pm_Ev 15 171 [.ref 49, .int a1, .int a2, .int a3, .int a4] M (pm_rL r).1 (pm_rL r).2 := by
  refine pm_meth (al := [some (.ref 49), some (.int a1), some (.int a2), some (.int a3), some (.int a4), none, none, none, none, none, none]) rfl rfl rfl rfl rfl ?_
  unfold sR_mean
  show I_R_mean _ (0, [some (.ref 49), some (.int a1), some (.int a2), some (.int a3), some (.int a4), none, none, none, none, none, none], [], M)
  refine pm_irun 1 (σ' := (1, [some (.ref 49), some (.int a1), some (.int a2), some (.int a3), some (.int a4), none, none, none, none, none, none], [.int a1], M)) rfl ?_
  refine pm_icI (as := [.int a1]) (rest := []) rfl rfl rfl rfl (Nat.le_of_ble_eq_true rfl) rfl (fun r h => pm_Ev_mono (Nat.le_of_ble_eq_true rfl) (sR_isPart_ok a1 M r h)) (fun v2 M1 => ?_)
  show pm_Im _ _ _ _ _ _ (4, [some (.ref 49), some (.int a1), some (.int a2), some (.int a3), some (.int a4), none, none, none, none, none, none], [.int v2], M1)
  refine pm_iite (σ1 := (45, [some (.ref 49), some (.int a1), some (.int a2), some (.int a3), some (.int a4), none, none, none, none, none, none], [], M1)) (σ2 := (7, [some (.ref 49), some (.int a1), some (.int a2), some (.int a3), some (.int a4), none, none, none, none, none, none], [], M1)) rfl (fun _ => ?_) (fun _ => ?_)
  · refine pm_irun 1 (σ' := (48, [some (.ref 49), some (.int a1), some (.int a2), some (.int a3), some (.int a4), none, none, none, none, none, none], [.long (-4611686018427387904 : Int64)], M1)) rfl ?_
    exact pm_irL rfl rfl
  · refine pm_irun 2 (σ' := (9, [some (.ref 49), some (.int a1), some (.int a2), some (.int a3), some (.int a4), none, none, none, none, none, none], [.int a2, .ref 49], M1)) rfl ?_
    refine pm_icI (as := [.ref 49, .int a2]) (rest := []) rfl rfl rfl rfl (Nat.le_of_ble_eq_true rfl) rfl (fun r h => pm_Ev_mono (Nat.le_of_ble_eq_true rfl) (sR_isStation_ok a2 M1 r h)) (fun v4 M3 => ?_)
    show pm_Im _ _ _ _ _ _ (12, [some (.ref 49), some (.int a1), some (.int a2), some (.int a3), some (.int a4), none, none, none, none, none, none], [.int v4], M3)
    refine pm_iite (σ1 := (45, [some (.ref 49), some (.int a1), some (.int a2), some (.int a3), some (.int a4), none, none, none, none, none, none], [], M3)) (σ2 := (15, [some (.ref 49), some (.int a1), some (.int a2), some (.int a3), some (.int a4), none, none, none, none, none, none], [], M3)) rfl (fun _ => ?_) (fun _ => ?_)
    · refine pm_irun 1 (σ' := (48, [some (.ref 49), some (.int a1), some (.int a2), some (.int a3), some (.int a4), none, none, none, none, none, none], [.long (-4611686018427387904 : Int64)], M3)) rfl ?_
      exact pm_irL rfl rfl
    · refine pm_irun 4 (σ' := (21, [some (.ref 49), some (.int a1), some (.int a2), some (.int a3), some (.int a4), none, none, none, none, none, none], [.long (2 : Int64), .long (0 : Int64), .long a3.toInt64], M3)) rfl ?_
      refine pm_icI (as := [.long a3.toInt64, .long (0 : Int64), .long (2 : Int64)]) (rest := []) rfl rfl rfl rfl (Nat.le_of_ble_eq_true rfl) rfl (fun r h => pm_Ev_mono (Nat.le_of_ble_eq_true rfl) (sR_in_ok (a3.toInt64) (0 : Int64) (2 : Int64) M3 r h)) (fun v6 M5 => ?_)
      show pm_Im _ _ _ _ _ _ (24, [some (.ref 49), some (.int a1), some (.int a2), some (.int a3), some (.int a4), none, none, none, none, none, none], [.int v6], M5)
      refine pm_iite (σ1 := (45, [some (.ref 49), some (.int a1), some (.int a2), some (.int a3), some (.int a4), none, none, none, none, none, none], [], M5)) (σ2 := (27, [some (.ref 49), some (.int a1), some (.int a2), some (.int a3), some (.int a4), none, none, none, none, none, none], [], M5)) rfl (fun _ => ?_) (fun _ => ?_)
      · refine pm_irun 1 (σ' := (48, [some (.ref 49), some (.int a1), some (.int a2), some (.int a3), some (.int a4), none, none, none, none, none, none], [.long (-4611686018427387904 : Int64)], M5)) rfl ?_
        exact pm_irL rfl rfl
      · refine pm_irun 4 (σ' := (32, [some (.ref 49), some (.int a1), some (.int a2), some (.int a3), some (.int a4), none, none, none, none, none, none], [.long (1 : Int64), .long (0 : Int64), .long a4.toInt64], M5)) rfl ?_
        refine pm_icI (as := [.long a4.toInt64, .long (0 : Int64), .long (1 : Int64)]) (rest := []) rfl rfl rfl rfl (Nat.le_of_ble_eq_true rfl) rfl (fun r h => pm_Ev_mono (Nat.le_of_ble_eq_true rfl) (sR_in_ok (a4.toInt64) (0 : Int64) (1 : Int64) M5 r h)) (fun v8 M7 => ?_)
        show pm_Im _ _ _ _ _ _ (35, [some (.ref 49), some (.int a1), some (.int a2), some (.int a3), some (.int a4), none, none, none, none, none, none], [.int v8], M7)
        refine pm_iite (σ1 := (45, [some (.ref 49), some (.int a1), some (.int a2), some (.int a3), some (.int a4), none, none, none, none, none, none], [], M7)) (σ2 := (38, [some (.ref 49), some (.int a1), some (.int a2), some (.int a3), some (.int a4), none, none, none, none, none, none], [], M7)) rfl (fun _ => ?_) (fun _ => ?_)
        · refine pm_irun 1 (σ' := (48, [some (.ref 49), some (.int a1), some (.int a2), some (.int a3), some (.int a4), none, none, none, none, none, none], [.long (-4611686018427387904 : Int64)], M7)) rfl ?_
          exact pm_irL rfl rfl
        · refine pm_irun 1 (σ' := (39, [some (.ref 49), some (.int a1), some (.int a2), some (.int a3), some (.int a4), none, none, none, none, none, none], [.ref 49], M7)) rfl ?_
          refine pm_icI (as := [.ref 49]) (rest := []) rfl rfl rfl rfl (Nat.le_of_ble_eq_true rfl) rfl (fun r h => pm_Ev_mono (Nat.le_of_ble_eq_true rfl) (sR_isSound_ok M7 r h)) (fun v10 M9 => ?_)
          show pm_Im _ _ _ _ _ _ (42, [some (.ref 49), some (.int a1), some (.int a2), some (.int a3), some (.int a4), none, none, none, none, none, none], [.int v10], M9)
          refine pm_iite (σ1 := (49, [some (.ref 49), some (.int a1), some (.int a2), some (.int a3), some (.int a4), none, none, none, none, none, none], [], M9)) (σ2 := (45, [some (.ref 49), some (.int a1), some (.int a2), some (.int a3), some (.int a4), none, none, none, none, none, none], [], M9)) rfl (fun _ => ?_) (fun _ => ?_)
          · refine pm_irun 3 (σ' := (52, [some (.ref 49), some (.int a1), some (.int a2), some (.int a3), some (.int a4), none, none, none, none, none, none], [.int a2, .int a1, .ref 49], M9)) rfl ?_
            refine pm_icL (as := [.ref 49, .int a1, .int a2]) (rest := []) rfl rfl rfl rfl (Nat.le_of_ble_eq_true rfl) rfl (fun r h => pm_Ev_mono (Nat.le_of_ble_eq_true rfl) (sR_numberAbove_ok a1 a2 M9 r h)) (fun v12 M11 => ?_)
            show pm_Im _ _ _ _ _ _ (55, [some (.ref 49), some (.int a1), some (.int a2), some (.int a3), some (.int a4), none, none, none, none, none, none], [.long v12], M11)
            refine pm_irun 1 (σ' := (57, [some (.ref 49), some (.int a1), some (.int a2), some (.int a3), some (.int a4), some (.long v12), none, none, none, none, none], [], M11)) rfl ?_
            refine pm_irun 4 (σ' := (63, [some (.ref 49), some (.int a1), some (.int a2), some (.int a3), some (.int a4), some (.long v12), none, none, none, none, none], [.int (-1 : Int32), .int (M11.1 49 1), .ref 49], M11)) rfl ?_
            refine pm_icV (as := [.ref 49, .int (M11.1 49 1), .int (-1 : Int32)]) (rest := []) rfl rfl rfl rfl (Nat.le_of_ble_eq_true rfl) rfl (fun r h => pm_Ev_mono (Nat.le_of_ble_eq_true rfl) (sR_constants_ok (M11.1 49 1) (-1 : Int32) M11 r h)) (fun M13 => ?_)
            show pm_Im _ _ _ _ _ _ (66, [some (.ref 49), some (.int a1), some (.int a2), some (.int a3), some (.int a4), some (.long v12), none, none, none, none, none], [], M13)
            refine pm_irun 4 (σ' := (72, [some (.ref 49), some (.int a1), some (.int a2), some (.int a3), some (.int a4), some (.long v12), none, none, none, none, none], [.int (0 : Int32), .ref 53, .ref 49], M13)) rfl ?_
            refine pm_igt (c := pm_in (0 : Int32) 2) (σ1 := (73, [some (.ref 49), some (.int a1), some (.int a2), some (.int a3), some (.int a4), some (.long v12), none, none, none, none, none], [.int (M13.1 53 0), .ref 49], M13)) (by decide) rfl ?_
            refine pm_irun 3 (σ' := (78, [some (.ref 49), some (.int a1), some (.int a2), some (.int a3), some (.int a4), some (.long v12), none, none, none, none, none], [.int (1 : Int32), .ref 53, .int (M13.1 53 0), .ref 49], M13)) rfl ?_
            refine pm_igt (c := pm_in (1 : Int32) 2) (σ1 := (79, [some (.ref 49), some (.int a1), some (.int a2), some (.int a3), some (.int a4), some (.long v12), none, none, none, none, none], [.int (M13.1 53 1), .int (M13.1 53 0), .ref 49], M13)) (by decide) rfl ?_
            refine pm_icL (as := [.ref 49, .int (M13.1 53 0), .int (M13.1 53 1)]) (rest := []) rfl rfl rfl rfl (Nat.le_of_ble_eq_true rfl) rfl (fun r h => pm_Ev_mono (Nat.le_of_ble_eq_true rfl) (sR_whole_ok (M13.1 53 0) (M13.1 53 1) M13 r h)) (fun v15 M14 => ?_)
            show pm_Im _ _ _ _ _ _ (82, [some (.ref 49), some (.int a1), some (.int a2), some (.int a3), some (.int a4), some (.long v12), none, none, none, none, none], [.long v15], M14)
            refine pm_irun 1 (σ' := (84, [some (.ref 49), some (.int a1), some (.int a2), some (.int a3), some (.int a4), some (.long v12), none, some (.long v15), none, none, none], [], M14)) rfl ?_
            refine pm_irun 3 (σ' := (89, [some (.ref 49), some (.int a1), some (.int a2), some (.int a3), some (.int a4), some (.long v12), none, some (.long v15), none, none, none], [.int a1, .ref 53], M14)) rfl ?_
            refine pm_igd (σ1 := (90, [some (.ref 49), some (.int a1), some (.int a2), some (.int a3), some (.int a4), some (.long v12), none, some (.long v15), none, none, none], [.int (M14.1 53 a1.toNatClampNeg)], M14)) rfl (fun _ => ?_)
            refine pm_ijn (fun (g : Int64 → pm_M → Option (Int64 × pm_M)) => ∀ (q18 : Int64) (M17 : pm_M), I_R_mean (g q18 M17) (125, [none, none, none, some (.int a3), some (.int a4), some (.long v12), none, some (.long v15), none, none, none], [.long q18], M17)) (fun (q18 : Int64) (M17 : pm_M) => ?_) (fun j16 hj16 => ?_)
            · show I_R_mean _ (125, [none, none, none, some (.int a3), some (.int a4), some (.long v12), none, some (.long v15), none, none, none], [.long q18], M17)
              refine pm_irun 1 (σ' := (127, [none, none, none, some (.int a3), some (.int a4), some (.long v12), none, some (.long v15), none, some (.long q18), none], [], M17)) rfl ?_
              refine pm_irun 1 (σ' := (128, [none, none, none, some (.int a3), some (.int a4), some (.long v12), none, some (.long v15), none, some (.long q18), none], [.int a3], M17)) rfl ?_
              refine pm_iite (σ1 := (141, [none, none, none, some (.int a3), some (.int a4), some (.long v12), none, some (.long v15), none, some (.long q18), none], [], M17)) (σ2 := (131, [none, none, none, some (.int a3), some (.int a4), some (.long v12), none, some (.long v15), none, some (.long q18), none], [], M17)) rfl (fun _ => ?_) (fun _ => ?_)
              · refine pm_irun 2 (σ' := (143, [none, none, none, some (.int a3), some (.int a4), some (.long v12), none, some (.long v15), none, some (.long q18), none], [.int (1 : Int32), .int a3], M17)) rfl ?_
                refine pm_iite (σ1 := (156, [none, none, none, some (.int a3), some (.int a4), some (.long v12), none, some (.long v15), none, some (.long q18), none], [], M17)) (σ2 := (146, [none, none, none, some (.int a3), some (.int a4), some (.long v12), none, some (.long v15), none, some (.long q18), none], [], M17)) rfl (fun _ => ?_) (fun _ => ?_)
                · refine pm_irun 3 (σ' := (160, [none, none, none, some (.int a3), some (.int a4), some (.long v12), none, some (.long v15), none, some (.long q18), none], [.int (lg_cmp q18 (0 : Int64))], M17)) rfl ?_
                  refine pm_iite (σ1 := (169, [none, none, none, some (.int a3), some (.int a4), some (.long v12), none, some (.long v15), none, some (.long q18), none], [], M17)) (σ2 := (163, [none, none, none, some (.int a3), some (.int a4), some (.long v12), none, some (.long v15), none, some (.long q18), none], [], M17)) rfl (fun _ => ?_) (fun _ => ?_)
                  · refine pm_irun 3 (σ' := (175, [none, none, none, some (.int a3), some (.int a4), some (.long v12), none, some (.long v15), none, some (.long q18), none], [.int a4, .long q18, .long v12], M17)) rfl ?_
                    refine pm_icL (as := [.long v12, .long q18, .int a4]) (rest := []) rfl rfl rfl rfl (Nat.le_of_ble_eq_true rfl) rfl (fun r h => pm_Ev_mono (Nat.le_of_ble_eq_true rfl) (sR_part_ok v12 q18 a4 M17 r h)) (fun v20 M19 => ?_)
                    show pm_Im _ _ _ _ _ _ (178, [none, none, none, some (.int a3), some (.int a4), some (.long v12), none, some (.long v15), none, some (.long q18), none], [.long v20], M19)
                    exact pm_irL rfl rfl
                  · refine pm_irun 2 (σ' := (178, [none, none, none, some (.int a3), some (.int a4), some (.long v12), none, some (.long v15), none, some (.long q18), none], [.long (-4611686018427387904 : Int64)], M17)) rfl ?_
                    exact pm_irL rfl rfl
                · refine pm_irun 3 (σ' := (152, [none, none, none, some (.int a3), some (.int a4), some (.long v12), none, some (.long v15), none, some (.long q18), none], [.int a4, .long v15, .long v12], M17)) rfl ?_
                  refine pm_icL (as := [.long v12, .long v15, .int a4]) (rest := []) rfl rfl rfl rfl (Nat.le_of_ble_eq_true rfl) rfl (fun r h => pm_Ev_mono (Nat.le_of_ble_eq_true rfl) (sR_part_ok v12 v15 a4 M17 r h)) (fun v22 M21 => ?_)
                  show pm_Im _ _ _ _ _ _ (155, [none, none, none, some (.int a3), some (.int a4), some (.long v12), none, some (.long v15), none, some (.long q18), none], [.long v22], M21)
                  exact pm_irL rfl rfl
              · refine pm_irun 3 (σ' := (137, [none, none, none, some (.int a3), some (.int a4), some (.long v12), none, some (.long v15), none, some (.long q18), none], [.int a4, .long v15, .long q18], M17)) rfl ?_
                refine pm_icL (as := [.long q18, .long v15, .int a4]) (rest := []) rfl rfl rfl rfl (Nat.le_of_ble_eq_true rfl) rfl (fun r h => pm_Ev_mono (Nat.le_of_ble_eq_true rfl) (sR_part_ok q18 v15 a4 M17 r h)) (fun v24 M23 => ?_)
                show pm_Im _ _ _ _ _ _ (140, [none, none, none, some (.int a3), some (.int a4), some (.long v12), none, some (.long v15), none, some (.long q18), none], [.long v24], M23)
                exact pm_irL rfl rfl
            refine pm_iite (σ1 := (97, [some (.ref 49), some (.int a1), some (.int a2), some (.int a3), some (.int a4), some (.long v12), none, some (.long v15), none, none, none], [], M14)) (σ2 := (93, [some (.ref 49), some (.int a1), some (.int a2), some (.int a3), some (.int a4), some (.long v12), none, some (.long v15), none, none, none], [], M14)) rfl (fun _ => ?_) (fun _ => ?_)
            · refine pm_irun 7 (σ' := (106, [some (.ref 49), some (.int a1), some (.int a2), some (.int a3), some (.int a4), some (.long v12), none, some (.long v15), none, none, none], [.int (((5 : Int32) * a1) + a2), .ref 59], M14)) rfl ?_
              refine pm_igd (σ1 := (107, [some (.ref 49), some (.int a1), some (.int a2), some (.int a3), some (.int a4), some (.long v12), none, some (.long v15), none, none, none], [.long (M14.2 59 (((5 : Int32) * a1) + a2).toNatClampNeg)], M14)) rfl (fun _ => ?_)
              refine pm_irun 5 (σ' := (114, [some (.ref 49), some (.int a1), some (.int a2), some (.int a3), some (.int a4), some (.long v12), none, some (.long v15), none, none, none], [.int (0 : Int32), .ref 53, .int a1, .ref 49, .long (M14.2 59 (((5 : Int32) * a1) + a2).toNatClampNeg)], M14)) rfl ?_
              refine pm_igt (c := pm_in (0 : Int32) 2) (σ1 := (115, [some (.ref 49), some (.int a1), some (.int a2), some (.int a3), some (.int a4), some (.long v12), none, some (.long v15), none, none, none], [.int (M14.1 53 0), .int a1, .ref 49, .long (M14.2 59 (((5 : Int32) * a1) + a2).toNatClampNeg)], M14)) (by decide) rfl ?_
              refine pm_irun 3 (σ' := (120, [some (.ref 49), some (.int a1), some (.int a2), some (.int a3), some (.int a4), some (.long v12), none, some (.long v15), none, none, none], [.int (1 : Int32), .ref 53, .int (M14.1 53 0), .int a1, .ref 49, .long (M14.2 59 (((5 : Int32) * a1) + a2).toNatClampNeg)], M14)) rfl ?_
              refine pm_igt (c := pm_in (1 : Int32) 2) (σ1 := (121, [some (.ref 49), some (.int a1), some (.int a2), some (.int a3), some (.int a4), some (.long v12), none, some (.long v15), none, none, none], [.int (M14.1 53 1), .int (M14.1 53 0), .int a1, .ref 49, .long (M14.2 59 (((5 : Int32) * a1) + a2).toNatClampNeg)], M14)) (by decide) rfl ?_
              refine pm_icL (as := [.ref 49, .int a1, .int (M14.1 53 0), .int (M14.1 53 1)]) (rest := [.long (M14.2 59 (((5 : Int32) * a1) + a2).toNatClampNeg)]) rfl rfl rfl rfl (Nat.le_of_ble_eq_true rfl) rfl (fun r h => pm_Ev_mono (Nat.le_of_ble_eq_true rfl) (sR_rateAbove_ok a1 (M14.1 53 0) (M14.1 53 1) M14 r h)) (fun v26 M25 => ?_)
              show pm_Im _ _ _ _ _ _ (124, [some (.ref 49), some (.int a1), some (.int a2), some (.int a3), some (.int a4), some (.long v12), none, some (.long v15), none, none, none], [.long v26, .long (M14.2 59 (((5 : Int32) * a1) + a2).toNatClampNeg)], M25)
              refine pm_irun 1 (σ' := (125, [some (.ref 49), some (.int a1), some (.int a2), some (.int a3), some (.int a4), some (.long v12), none, some (.long v15), none, none, none], [.long ((M14.2 59 (((5 : Int32) * a1) + a2).toNatClampNeg) * v26)], M25)) rfl ?_
              refine pm_iwk (al' := [none, none, none, some (.int a3), some (.int a4), some (.long v12), none, some (.long v15), none, none, none]) (pm_wkN (pm_wkN (pm_wkN (pm_wkS (pm_wkS (pm_wkS (pm_wkS (pm_wkS (pm_wkS (pm_wkS (pm_wkS pm_wk0))))))))))) ?_
              exact hj16 _ _
            · refine pm_irun 2 (σ' := (125, [some (.ref 49), some (.int a1), some (.int a2), some (.int a3), some (.int a4), some (.long v12), none, some (.long v15), none, none, none], [.long (0 : Int64)], M14)) rfl ?_
              refine pm_iwk (al' := [none, none, none, some (.int a3), some (.int a4), some (.long v12), none, some (.long v15), none, none, none]) (pm_wkN (pm_wkN (pm_wkN (pm_wkS (pm_wkS (pm_wkS (pm_wkS (pm_wkS (pm_wkS (pm_wkS (pm_wkS pm_wk0))))))))))) ?_
              exact hj16 _ _
          · refine pm_irun 1 (σ' := (48, [some (.ref 49), some (.int a1), some (.int a2), some (.int a3), some (.int a4), none, none, none, none, none, none], [.long (-4611686018427387904 : Int64)], M9)) rfl ?_
            exact pm_irL rfl rfl
def sStates_busyAbove (a1 : Int32) (M : pm_M) : Option (Int64 × pm_M) := pm_bv (sStates_fillConstants (M.1 23 1) (M.1 23 2) (M.1 23 0) (-1 : Int32) M) fun M1 => if pm_in a1 10 then (pm_bd (sStates_oneLessAbove (0 : Int32) (M1.1 23 1) (M1.1 23 2) M1) fun v3 M2 => pm_lt (((M1.2 25 a1.toNatClampNeg) * v3)) fun x4 => if pm_in ((5 : Int32) + a1) 10 then (pm_bd (sStates_oneLessAbove (1 : Int32) (M2.1 23 1) (M2.1 23 2) M2) fun v6 M5 => some ((x4 + ((M2.2 25 ((5 : Int32) + a1).toNatClampNeg) * v6)), M5)) else none) else none
abbrev I_States_busyAbove (sh : Option (Int64 × pm_M)) (σ : pm_St) : Prop := pm_Im none (pm_Ev 4) pm_T19 (some .long) pm_rL sh σ
set_option maxHeartbeats 4000000 in
set_option maxRecDepth 100000 in
theorem sStates_busyAbove_ok (a1 : Int32) (M : pm_M) : ∀ r, sStates_busyAbove a1 M = some r → pm_Ev 5 19 [.ref 23, .int a1] M (pm_rL r).1 (pm_rL r).2 := by
  refine pm_meth (al := [some (.ref 23), some (.int a1), none, none]) rfl rfl rfl rfl rfl ?_
  unfold sStates_busyAbove
  show I_States_busyAbove _ (0, [some (.ref 23), some (.int a1), none, none], [], M)
  refine pm_irun 8 (σ' := (14, [some (.ref 23), some (.int a1), none, none], [.int (-1 : Int32), .int (M.1 23 0), .int (M.1 23 2), .int (M.1 23 1), .ref 23], M)) rfl ?_
  refine pm_icV (as := [.ref 23, .int (M.1 23 1), .int (M.1 23 2), .int (M.1 23 0), .int (-1 : Int32)]) (rest := []) rfl rfl rfl rfl (Nat.le_of_ble_eq_true rfl) rfl (fun r h => pm_Ev_mono (Nat.le_of_ble_eq_true rfl) (sStates_fillConstants_ok (M.1 23 1) (M.1 23 2) (M.1 23 0) (-1 : Int32) M r h)) (fun M1 => ?_)
  show pm_Im _ _ _ _ _ _ (17, [some (.ref 23), some (.int a1), none, none], [], M1)
  refine pm_irun 3 (σ' := (22, [some (.ref 23), some (.int a1), none, none], [.int a1, .ref 25], M1)) rfl ?_
  refine pm_igd (σ1 := (23, [some (.ref 23), some (.int a1), none, none], [.long (M1.2 25 a1.toNatClampNeg)], M1)) rfl (fun _ => ?_)
  refine pm_irun 6 (σ' := (33, [some (.ref 23), some (.int a1), none, none], [.int (M1.1 23 2), .int (M1.1 23 1), .int (0 : Int32), .ref 23, .long (M1.2 25 a1.toNatClampNeg)], M1)) rfl ?_
  refine pm_icL (as := [.ref 23, .int (0 : Int32), .int (M1.1 23 1), .int (M1.1 23 2)]) (rest := [.long (M1.2 25 a1.toNatClampNeg)]) rfl rfl rfl rfl (Nat.le_of_ble_eq_true rfl) rfl (fun r h => pm_Ev_mono (Nat.le_of_ble_eq_true rfl) (sStates_oneLessAbove_ok (0 : Int32) (M1.1 23 1) (M1.1 23 2) M1 r h)) (fun v3 M2 => ?_)
  show pm_Im _ _ _ _ _ _ (36, [some (.ref 23), some (.int a1), none, none], [.long v3, .long (M1.2 25 a1.toNatClampNeg)], M2)
  refine pm_irun 2 (σ' := (38, [some (.ref 23), some (.int a1), some (.long ((M1.2 25 a1.toNatClampNeg) * v3)), none], [], M2)) rfl ?_
  refine pm_ilt (fun y => (38, [some (.ref 23), some (.int a1), some (.long y), none], [], M2)) (fun x4 => ?_)
  refine pm_irun 6 (σ' := (46, [some (.ref 23), some (.int a1), some (.long x4), none], [.int ((5 : Int32) + a1), .ref 25, .long x4], M2)) rfl ?_
  refine pm_igd (σ1 := (47, [some (.ref 23), some (.int a1), some (.long x4), none], [.long (M2.2 25 ((5 : Int32) + a1).toNatClampNeg), .long x4], M2)) rfl (fun _ => ?_)
  refine pm_irun 6 (σ' := (57, [some (.ref 23), some (.int a1), some (.long x4), none], [.int (M2.1 23 2), .int (M2.1 23 1), .int (1 : Int32), .ref 23, .long (M2.2 25 ((5 : Int32) + a1).toNatClampNeg), .long x4], M2)) rfl ?_
  refine pm_icL (as := [.ref 23, .int (1 : Int32), .int (M2.1 23 1), .int (M2.1 23 2)]) (rest := [.long (M2.2 25 ((5 : Int32) + a1).toNatClampNeg), .long x4]) rfl rfl rfl rfl (Nat.le_of_ble_eq_true rfl) rfl (fun r h => pm_Ev_mono (Nat.le_of_ble_eq_true rfl) (sStates_oneLessAbove_ok (1 : Int32) (M2.1 23 1) (M2.1 23 2) M2 r h)) (fun v6 M5 => ?_)
  show pm_Im _ _ _ _ _ _ (60, [some (.ref 23), some (.int a1), some (.long x4), none], [.long v6, .long (M2.2 25 ((5 : Int32) + a1).toNatClampNeg), .long x4], M5)
  refine pm_irun 2 (σ' := (62, [some (.ref 23), some (.int a1), some (.long x4), none], [.long (x4 + ((M2.2 25 ((5 : Int32) + a1).toNatClampNeg) * v6))], M5)) rfl ?_
  exact pm_irL rfl rfl
def sC_busy (a1 : Int32) (a2 : Int32) (M : pm_M) : Option (Int64 × pm_M) := pm_bd (sNet_hasStation_1 a1 M) fun v2 M1 => if v2 = 0 then (some ((-4611686018427387904 : Int64), M1)) else (pm_bd (sC_isLine a2 M1) fun v4 M3 => if v4 = 0 then (some ((-4611686018427387904 : Int64), M3)) else (if pm_in a1 5 then (if ¬ (M3.1 2 a1.toNatClampNeg) = (3 : Int32) then (pm_bd (sTours_isSound M3) fun v6 M5 => if ¬ v6 = 0 then (pm_bd (sStates_busyAbove a1 M5) fun v8 M7 => pm_bd (sStates_constantOfAll M7) fun v10 M9 => pm_bd (sC_fraction v8 v10 a2 M9) fun v12 M11 => some (v12, M11)) else (some ((-4611686018427387904 : Int64), M5))) else (some ((-4611686018427387904 : Int64), M3))) else none))
abbrev I_C_busy (sh : Option (Int64 × pm_M)) (σ : pm_St) : Prop := pm_Im none (pm_Ev 6) pm_T77 (some .long) pm_rL sh σ
set_option maxHeartbeats 4000000 in
set_option maxRecDepth 100000 in
theorem sC_busy_ok (a1 : Int32) (a2 : Int32) (M : pm_M) : ∀ r, sC_busy a1 a2 M = some r → pm_Ev 7 77 [.ref 0, .int a1, .int a2] M (pm_rL r).1 (pm_rL r).2 := by
  refine pm_meth (al := [some (.ref 0), some (.int a1), some (.int a2), none, none]) rfl rfl rfl rfl rfl ?_
  unfold sC_busy
  show I_C_busy _ (0, [some (.ref 0), some (.int a1), some (.int a2), none, none], [], M)
  refine pm_irun 3 (σ' := (5, [some (.ref 0), some (.int a1), some (.int a2), none, none], [.int a1, .ref 1], M)) rfl ?_
  refine pm_icI (as := [.ref 1, .int a1]) (rest := []) rfl rfl rfl rfl (Nat.le_of_ble_eq_true rfl) rfl (fun r h => pm_Ev_mono (Nat.le_of_ble_eq_true rfl) (sNet_hasStation_1_ok a1 M r h)) (fun v2 M1 => ?_)
  show pm_Im _ _ _ _ _ _ (8, [some (.ref 0), some (.int a1), some (.int a2), none, none], [.int v2], M1)
  refine pm_iite (σ1 := (31, [some (.ref 0), some (.int a1), some (.int a2), none, none], [], M1)) (σ2 := (11, [some (.ref 0), some (.int a1), some (.int a2), none, none], [], M1)) rfl (fun _ => ?_) (fun _ => ?_)
  · refine pm_irun 1 (σ' := (34, [some (.ref 0), some (.int a1), some (.int a2), none, none], [.long (-4611686018427387904 : Int64)], M1)) rfl ?_
    exact pm_irL rfl rfl
  · refine pm_irun 1 (σ' := (12, [some (.ref 0), some (.int a1), some (.int a2), none, none], [.int a2], M1)) rfl ?_
    refine pm_icI (as := [.int a2]) (rest := []) rfl rfl rfl rfl (Nat.le_of_ble_eq_true rfl) rfl (fun r h => pm_Ev_mono (Nat.le_of_ble_eq_true rfl) (sC_isLine_ok a2 M1 r h)) (fun v4 M3 => ?_)
    show pm_Im _ _ _ _ _ _ (15, [some (.ref 0), some (.int a1), some (.int a2), none, none], [.int v4], M3)
    refine pm_iite (σ1 := (31, [some (.ref 0), some (.int a1), some (.int a2), none, none], [], M3)) (σ2 := (18, [some (.ref 0), some (.int a1), some (.int a2), none, none], [], M3)) rfl (fun _ => ?_) (fun _ => ?_)
    · refine pm_irun 1 (σ' := (34, [some (.ref 0), some (.int a1), some (.int a2), none, none], [.long (-4611686018427387904 : Int64)], M3)) rfl ?_
      exact pm_irL rfl rfl
    · refine pm_irun 4 (σ' := (26, [some (.ref 0), some (.int a1), some (.int a2), none, none], [.int a1, .ref 2], M3)) rfl ?_
      refine pm_igd (σ1 := (27, [some (.ref 0), some (.int a1), some (.int a2), none, none], [.int (M3.1 2 a1.toNatClampNeg)], M3)) rfl (fun _ => ?_)
      refine pm_irun 1 (σ' := (28, [some (.ref 0), some (.int a1), some (.int a2), none, none], [.int (3 : Int32), .int (M3.1 2 a1.toNatClampNeg)], M3)) rfl ?_
      refine pm_iite (σ1 := (35, [some (.ref 0), some (.int a1), some (.int a2), none, none], [], M3)) (σ2 := (31, [some (.ref 0), some (.int a1), some (.int a2), none, none], [], M3)) rfl (fun _ => ?_) (fun _ => ?_)
      · refine pm_irun 2 (σ' := (39, [some (.ref 0), some (.int a1), some (.int a2), none, none], [.ref 15], M3)) rfl ?_
        refine pm_icI (as := [.ref 15]) (rest := []) rfl rfl rfl rfl (Nat.le_of_ble_eq_true rfl) rfl (fun r h => pm_Ev_mono (Nat.le_of_ble_eq_true rfl) (sTours_isSound_ok M3 r h)) (fun v6 M5 => ?_)
        show pm_Im _ _ _ _ _ _ (42, [some (.ref 0), some (.int a1), some (.int a2), none, none], [.int v6], M5)
        refine pm_iite (σ1 := (49, [some (.ref 0), some (.int a1), some (.int a2), none, none], [], M5)) (σ2 := (45, [some (.ref 0), some (.int a1), some (.int a2), none, none], [], M5)) rfl (fun _ => ?_) (fun _ => ?_)
        · refine pm_irun 3 (σ' := (54, [some (.ref 0), some (.int a1), some (.int a2), none, none], [.int a1, .ref 23], M5)) rfl ?_
          refine pm_icL (as := [.ref 23, .int a1]) (rest := []) rfl rfl rfl rfl (Nat.le_of_ble_eq_true rfl) rfl (fun r h => pm_Ev_mono (Nat.le_of_ble_eq_true rfl) (sStates_busyAbove_ok a1 M5 r h)) (fun v8 M7 => ?_)
          show pm_Im _ _ _ _ _ _ (57, [some (.ref 0), some (.int a1), some (.int a2), none, none], [.long v8], M7)
          refine pm_irun 1 (σ' := (58, [some (.ref 0), some (.int a1), some (.int a2), some (.long v8), none], [], M7)) rfl ?_
          refine pm_irun 3 (σ' := (63, [some (.ref 0), some (.int a1), some (.int a2), some (.long v8), none], [.ref 23, .long v8], M7)) rfl ?_
          refine pm_icL (as := [.ref 23]) (rest := [.long v8]) rfl rfl rfl rfl (Nat.le_of_ble_eq_true rfl) rfl (fun r h => pm_Ev_mono (Nat.le_of_ble_eq_true rfl) (sStates_constantOfAll_ok M7 r h)) (fun v10 M9 => ?_)
          show pm_Im _ _ _ _ _ _ (66, [some (.ref 0), some (.int a1), some (.int a2), some (.long v8), none], [.long v10, .long v8], M9)
          refine pm_irun 1 (σ' := (67, [some (.ref 0), some (.int a1), some (.int a2), some (.long v8), none], [.int a2, .long v10, .long v8], M9)) rfl ?_
          refine pm_icL (as := [.long v8, .long v10, .int a2]) (rest := []) rfl rfl rfl rfl (Nat.le_of_ble_eq_true rfl) rfl (fun r h => pm_Ev_mono (Nat.le_of_ble_eq_true rfl) (sC_fraction_ok v8 v10 a2 M9 r h)) (fun v12 M11 => ?_)
          show pm_Im _ _ _ _ _ _ (70, [some (.ref 0), some (.int a1), some (.int a2), some (.long v8), none], [.long v12], M11)
          exact pm_irL rfl rfl
        · refine pm_irun 1 (σ' := (48, [some (.ref 0), some (.int a1), some (.int a2), none, none], [.long (-4611686018427387904 : Int64)], M5)) rfl ?_
          exact pm_irL rfl rfl
      · refine pm_irun 1 (σ' := (34, [some (.ref 0), some (.int a1), some (.int a2), none, none], [.long (-4611686018427387904 : Int64)], M3)) rfl ?_
        exact pm_irL rfl rfl
def sR_busyAbove (a1 : Int32) (M : pm_M) : Option (Int64 × pm_M) := if pm_in a1 10 then (pm_bd (sR_rateAbove (0 : Int32) (M.1 53 0) (M.1 53 1) M) fun v2 M1 => if pm_in ((5 : Int32) + a1) 10 then (pm_bd (sR_rateAbove (1 : Int32) (M1.1 53 0) (M1.1 53 1) M1) fun v4 M3 => some ((((M.2 60 a1.toNatClampNeg) * v2) + ((M1.2 60 ((5 : Int32) + a1).toNatClampNeg) * v4)), M3)) else none) else none
abbrev I_R_busyAbove (sh : Option (Int64 × pm_M)) (σ : pm_St) : Prop := pm_Im none (pm_Ev 2) pm_T172 (some .long) pm_rL sh σ
set_option maxHeartbeats 4000000 in
set_option maxRecDepth 100000 in
theorem sR_busyAbove_ok (a1 : Int32) (M : pm_M) : ∀ r, sR_busyAbove a1 M = some r → pm_Ev 3 172 [.ref 49, .int a1] M (pm_rL r).1 (pm_rL r).2 := by
  refine pm_meth (al := [some (.ref 49), some (.int a1)]) rfl rfl rfl rfl rfl ?_
  unfold sR_busyAbove
  show I_R_busyAbove _ (0, [some (.ref 49), some (.int a1)], [], M)
  refine pm_irun 3 (σ' := (5, [some (.ref 49), some (.int a1)], [.int a1, .ref 60], M)) rfl ?_
  refine pm_igd (σ1 := (6, [some (.ref 49), some (.int a1)], [.long (M.2 60 a1.toNatClampNeg)], M)) rfl (fun _ => ?_)
  refine pm_irun 5 (σ' := (13, [some (.ref 49), some (.int a1)], [.int (0 : Int32), .ref 53, .int (0 : Int32), .ref 49, .long (M.2 60 a1.toNatClampNeg)], M)) rfl ?_
  refine pm_igt (c := pm_in (0 : Int32) 2) (σ1 := (14, [some (.ref 49), some (.int a1)], [.int (M.1 53 0), .int (0 : Int32), .ref 49, .long (M.2 60 a1.toNatClampNeg)], M)) (by decide) rfl ?_
  refine pm_irun 3 (σ' := (19, [some (.ref 49), some (.int a1)], [.int (1 : Int32), .ref 53, .int (M.1 53 0), .int (0 : Int32), .ref 49, .long (M.2 60 a1.toNatClampNeg)], M)) rfl ?_
  refine pm_igt (c := pm_in (1 : Int32) 2) (σ1 := (20, [some (.ref 49), some (.int a1)], [.int (M.1 53 1), .int (M.1 53 0), .int (0 : Int32), .ref 49, .long (M.2 60 a1.toNatClampNeg)], M)) (by decide) rfl ?_
  refine pm_icL (as := [.ref 49, .int (0 : Int32), .int (M.1 53 0), .int (M.1 53 1)]) (rest := [.long (M.2 60 a1.toNatClampNeg)]) rfl rfl rfl rfl (Nat.le_of_ble_eq_true rfl) rfl (fun r h => pm_Ev_mono (Nat.le_of_ble_eq_true rfl) (sR_rateAbove_ok (0 : Int32) (M.1 53 0) (M.1 53 1) M r h)) (fun v2 M1 => ?_)
  show pm_Im _ _ _ _ _ _ (23, [some (.ref 49), some (.int a1)], [.long v2, .long (M.2 60 a1.toNatClampNeg)], M1)
  refine pm_irun 6 (σ' := (31, [some (.ref 49), some (.int a1)], [.int ((5 : Int32) + a1), .ref 60, .long ((M.2 60 a1.toNatClampNeg) * v2)], M1)) rfl ?_
  refine pm_igd (σ1 := (32, [some (.ref 49), some (.int a1)], [.long (M1.2 60 ((5 : Int32) + a1).toNatClampNeg), .long ((M.2 60 a1.toNatClampNeg) * v2)], M1)) rfl (fun _ => ?_)
  refine pm_irun 5 (σ' := (39, [some (.ref 49), some (.int a1)], [.int (0 : Int32), .ref 53, .int (1 : Int32), .ref 49, .long (M1.2 60 ((5 : Int32) + a1).toNatClampNeg), .long ((M.2 60 a1.toNatClampNeg) * v2)], M1)) rfl ?_
  refine pm_igt (c := pm_in (0 : Int32) 2) (σ1 := (40, [some (.ref 49), some (.int a1)], [.int (M1.1 53 0), .int (1 : Int32), .ref 49, .long (M1.2 60 ((5 : Int32) + a1).toNatClampNeg), .long ((M.2 60 a1.toNatClampNeg) * v2)], M1)) (by decide) rfl ?_
  refine pm_irun 3 (σ' := (45, [some (.ref 49), some (.int a1)], [.int (1 : Int32), .ref 53, .int (M1.1 53 0), .int (1 : Int32), .ref 49, .long (M1.2 60 ((5 : Int32) + a1).toNatClampNeg), .long ((M.2 60 a1.toNatClampNeg) * v2)], M1)) rfl ?_
  refine pm_igt (c := pm_in (1 : Int32) 2) (σ1 := (46, [some (.ref 49), some (.int a1)], [.int (M1.1 53 1), .int (M1.1 53 0), .int (1 : Int32), .ref 49, .long (M1.2 60 ((5 : Int32) + a1).toNatClampNeg), .long ((M.2 60 a1.toNatClampNeg) * v2)], M1)) (by decide) rfl ?_
  refine pm_icL (as := [.ref 49, .int (1 : Int32), .int (M1.1 53 0), .int (M1.1 53 1)]) (rest := [.long (M1.2 60 ((5 : Int32) + a1).toNatClampNeg), .long ((M.2 60 a1.toNatClampNeg) * v2)]) rfl rfl rfl rfl (Nat.le_of_ble_eq_true rfl) rfl (fun r h => pm_Ev_mono (Nat.le_of_ble_eq_true rfl) (sR_rateAbove_ok (1 : Int32) (M1.1 53 0) (M1.1 53 1) M1 r h)) (fun v4 M3 => ?_)
  show pm_Im _ _ _ _ _ _ (49, [some (.ref 49), some (.int a1)], [.long v4, .long (M1.2 60 ((5 : Int32) + a1).toNatClampNeg), .long ((M.2 60 a1.toNatClampNeg) * v2)], M3)
  refine pm_irun 2 (σ' := (51, [some (.ref 49), some (.int a1)], [.long (((M.2 60 a1.toNatClampNeg) * v2) + ((M1.2 60 ((5 : Int32) + a1).toNatClampNeg) * v4))], M3)) rfl ?_
  exact pm_irL rfl rfl
def sR_busy (a1 : Int32) (a2 : Int32) (M : pm_M) : Option (Int64 × pm_M) := pm_bd (sR_isStation a1 M) fun v2 M1 => if v2 = 0 then (some ((-4611686018427387904 : Int64), M1)) else (pm_bd (sR_in (a2.toInt64) (0 : Int64) (1 : Int64) M1) fun v4 M3 => if v4 = 0 then (some ((-4611686018427387904 : Int64), M3)) else (if pm_in a1 5 then (if (M3.1 50 a1.toNatClampNeg) = (3 : Int32) then (some ((-4611686018427387904 : Int64), M3)) else (pm_bd (sR_isSound M3) fun v6 M5 => if ¬ v6 = 0 then (pm_bv (sR_constants (M5.1 49 1) (-1 : Int32) M5) fun M7 => pm_bd (sR_busyAbove a1 M7) fun v9 M8 => pm_bd (sR_whole (M8.1 53 0) (M8.1 53 1) M8) fun v11 M10 => pm_bd (sR_part v9 v11 a2 M10) fun v13 M12 => some (v13, M12)) else (some ((-4611686018427387904 : Int64), M5)))) else none))
abbrev I_R_busy (sh : Option (Int64 × pm_M)) (σ : pm_St) : Prop := pm_Im none (pm_Ev 14) pm_T173 (some .long) pm_rL sh σ
set_option maxHeartbeats 4000000 in
set_option maxRecDepth 100000 in
theorem sR_busy_ok (a1 : Int32) (a2 : Int32) (M : pm_M) : ∀ r, sR_busy a1 a2 M = some r → pm_Ev 15 173 [.ref 49, .int a1, .int a2] M (pm_rL r).1 (pm_rL r).2 := by
  refine pm_meth (al := [some (.ref 49), some (.int a1), some (.int a2)]) rfl rfl rfl rfl rfl ?_
  unfold sR_busy
  show I_R_busy _ (0, [some (.ref 49), some (.int a1), some (.int a2)], [], M)
  refine pm_irun 2 (σ' := (2, [some (.ref 49), some (.int a1), some (.int a2)], [.int a1, .ref 49], M)) rfl ?_
  refine pm_icI (as := [.ref 49, .int a1]) (rest := []) rfl rfl rfl rfl (Nat.le_of_ble_eq_true rfl) rfl (fun r h => pm_Ev_mono (Nat.le_of_ble_eq_true rfl) (sR_isStation_ok a1 M r h)) (fun v2 M1 => ?_)
  show pm_Im _ _ _ _ _ _ (5, [some (.ref 49), some (.int a1), some (.int a2)], [.int v2], M1)
  refine pm_iite (σ1 := (35, [some (.ref 49), some (.int a1), some (.int a2)], [], M1)) (σ2 := (8, [some (.ref 49), some (.int a1), some (.int a2)], [], M1)) rfl (fun _ => ?_) (fun _ => ?_)
  · refine pm_irun 1 (σ' := (38, [some (.ref 49), some (.int a1), some (.int a2)], [.long (-4611686018427387904 : Int64)], M1)) rfl ?_
    exact pm_irL rfl rfl
  · refine pm_irun 4 (σ' := (12, [some (.ref 49), some (.int a1), some (.int a2)], [.long (1 : Int64), .long (0 : Int64), .long a2.toInt64], M1)) rfl ?_
    refine pm_icI (as := [.long a2.toInt64, .long (0 : Int64), .long (1 : Int64)]) (rest := []) rfl rfl rfl rfl (Nat.le_of_ble_eq_true rfl) rfl (fun r h => pm_Ev_mono (Nat.le_of_ble_eq_true rfl) (sR_in_ok (a2.toInt64) (0 : Int64) (1 : Int64) M1 r h)) (fun v4 M3 => ?_)
    show pm_Im _ _ _ _ _ _ (15, [some (.ref 49), some (.int a1), some (.int a2)], [.int v4], M3)
    refine pm_iite (σ1 := (35, [some (.ref 49), some (.int a1), some (.int a2)], [], M3)) (σ2 := (18, [some (.ref 49), some (.int a1), some (.int a2)], [], M3)) rfl (fun _ => ?_) (fun _ => ?_)
    · refine pm_irun 1 (σ' := (38, [some (.ref 49), some (.int a1), some (.int a2)], [.long (-4611686018427387904 : Int64)], M3)) rfl ?_
      exact pm_irL rfl rfl
    · refine pm_irun 3 (σ' := (23, [some (.ref 49), some (.int a1), some (.int a2)], [.int a1, .ref 50], M3)) rfl ?_
      refine pm_igd (σ1 := (24, [some (.ref 49), some (.int a1), some (.int a2)], [.int (M3.1 50 a1.toNatClampNeg)], M3)) rfl (fun _ => ?_)
      refine pm_irun 1 (σ' := (25, [some (.ref 49), some (.int a1), some (.int a2)], [.int (3 : Int32), .int (M3.1 50 a1.toNatClampNeg)], M3)) rfl ?_
      refine pm_iite (σ1 := (35, [some (.ref 49), some (.int a1), some (.int a2)], [], M3)) (σ2 := (28, [some (.ref 49), some (.int a1), some (.int a2)], [], M3)) rfl (fun _ => ?_) (fun _ => ?_)
      · refine pm_irun 1 (σ' := (38, [some (.ref 49), some (.int a1), some (.int a2)], [.long (-4611686018427387904 : Int64)], M3)) rfl ?_
        exact pm_irL rfl rfl
      · refine pm_irun 1 (σ' := (29, [some (.ref 49), some (.int a1), some (.int a2)], [.ref 49], M3)) rfl ?_
        refine pm_icI (as := [.ref 49]) (rest := []) rfl rfl rfl rfl (Nat.le_of_ble_eq_true rfl) rfl (fun r h => pm_Ev_mono (Nat.le_of_ble_eq_true rfl) (sR_isSound_ok M3 r h)) (fun v6 M5 => ?_)
        show pm_Im _ _ _ _ _ _ (32, [some (.ref 49), some (.int a1), some (.int a2)], [.int v6], M5)
        refine pm_iite (σ1 := (39, [some (.ref 49), some (.int a1), some (.int a2)], [], M5)) (σ2 := (35, [some (.ref 49), some (.int a1), some (.int a2)], [], M5)) rfl (fun _ => ?_) (fun _ => ?_)
        · refine pm_irun 4 (σ' := (45, [some (.ref 49), some (.int a1), some (.int a2)], [.int (-1 : Int32), .int (M5.1 49 1), .ref 49], M5)) rfl ?_
          refine pm_icV (as := [.ref 49, .int (M5.1 49 1), .int (-1 : Int32)]) (rest := []) rfl rfl rfl rfl (Nat.le_of_ble_eq_true rfl) rfl (fun r h => pm_Ev_mono (Nat.le_of_ble_eq_true rfl) (sR_constants_ok (M5.1 49 1) (-1 : Int32) M5 r h)) (fun M7 => ?_)
          show pm_Im _ _ _ _ _ _ (48, [some (.ref 49), some (.int a1), some (.int a2)], [], M7)
          refine pm_irun 2 (σ' := (50, [some (.ref 49), some (.int a1), some (.int a2)], [.int a1, .ref 49], M7)) rfl ?_
          refine pm_icL (as := [.ref 49, .int a1]) (rest := []) rfl rfl rfl rfl (Nat.le_of_ble_eq_true rfl) rfl (fun r h => pm_Ev_mono (Nat.le_of_ble_eq_true rfl) (sR_busyAbove_ok a1 M7 r h)) (fun v9 M8 => ?_)
          show pm_Im _ _ _ _ _ _ (53, [some (.ref 49), some (.int a1), some (.int a2)], [.long v9], M8)
          refine pm_irun 4 (σ' := (59, [some (.ref 49), some (.int a1), some (.int a2)], [.int (0 : Int32), .ref 53, .ref 49, .long v9], M8)) rfl ?_
          refine pm_igt (c := pm_in (0 : Int32) 2) (σ1 := (60, [some (.ref 49), some (.int a1), some (.int a2)], [.int (M8.1 53 0), .ref 49, .long v9], M8)) (by decide) rfl ?_
          refine pm_irun 3 (σ' := (65, [some (.ref 49), some (.int a1), some (.int a2)], [.int (1 : Int32), .ref 53, .int (M8.1 53 0), .ref 49, .long v9], M8)) rfl ?_
          refine pm_igt (c := pm_in (1 : Int32) 2) (σ1 := (66, [some (.ref 49), some (.int a1), some (.int a2)], [.int (M8.1 53 1), .int (M8.1 53 0), .ref 49, .long v9], M8)) (by decide) rfl ?_
          refine pm_icL (as := [.ref 49, .int (M8.1 53 0), .int (M8.1 53 1)]) (rest := [.long v9]) rfl rfl rfl rfl (Nat.le_of_ble_eq_true rfl) rfl (fun r h => pm_Ev_mono (Nat.le_of_ble_eq_true rfl) (sR_whole_ok (M8.1 53 0) (M8.1 53 1) M8 r h)) (fun v11 M10 => ?_)
          show pm_Im _ _ _ _ _ _ (69, [some (.ref 49), some (.int a1), some (.int a2)], [.long v11, .long v9], M10)
          refine pm_irun 1 (σ' := (70, [some (.ref 49), some (.int a1), some (.int a2)], [.int a2, .long v11, .long v9], M10)) rfl ?_
          refine pm_icL (as := [.long v9, .long v11, .int a2]) (rest := []) rfl rfl rfl rfl (Nat.le_of_ble_eq_true rfl) rfl (fun r h => pm_Ev_mono (Nat.le_of_ble_eq_true rfl) (sR_part_ok v9 v11 a2 M10 r h)) (fun v13 M12 => ?_)
          show pm_Im _ _ _ _ _ _ (73, [some (.ref 49), some (.int a1), some (.int a2)], [.long v13], M12)
          exact pm_irL rfl rfl
        · refine pm_irun 1 (σ' := (38, [some (.ref 49), some (.int a1), some (.int a2)], [.long (-4611686018427387904 : Int64)], M5)) rfl ?_
          exact pm_irL rfl rfl
def sC_narrow  (M : pm_M) : Option (Int32 × pm_M) := pm_bd (sTours_isSound M) fun v2 M1 => if ¬ v2 = 0 then (pm_loop (fun _ _ _ _ => none) (fun (g3 : Int32 → Int64 → Int32 → pm_M → Option (Int32 × pm_M)) x5 x6 x7 M4 => if (M4.1 1 0) ≤ x7 then (some (x5, M4)) else (if pm_in x7 5 then (if ¬ (M4.1 2 x7.toNatClampNeg) = (3 : Int32) then (pm_bd (sStates_busyAbove x7 M4) fun v9 M8 => pm_jn (fun (M11 : pm_M) => pm_lt ((x7 + (1 : Int32))) fun x12 => g3 x7 v9 x12 M11) fun (j10 : pm_M → Option (Int32 × pm_M)) => if x5 = (-1 : Int32) then (j10 M8) else (if (lg_cmp v9 x6) ≤ 0 then (pm_lt ((x7 + (1 : Int32))) fun x13 => g3 x5 x6 x13 M8) else (j10 M8))) else (pm_lt ((x7 + (1 : Int32))) fun x14 => g3 x5 x6 x14 M4)) else none)) 1000000 (-1 : Int32) (0 : Int64) (0 : Int32) M1) else (some ((-3 : Int32), M1))
abbrev I_C_narrow (sh : Option (Int32 × pm_M)) (σ : pm_St) : Prop := pm_Im none (pm_Ev 5) pm_T78 (some .int) pm_rI sh σ
set_option maxHeartbeats 4000000 in
set_option maxRecDepth 100000 in
theorem sC_narrow_ok  (M : pm_M) : ∀ r, sC_narrow  M = some r → pm_Ev 6 78 [.ref 0] M (pm_rI r).1 (pm_rI r).2 := by
  refine pm_meth (al := [some (.ref 0), none, none, none, none, none, none]) rfl rfl rfl rfl rfl ?_
  unfold sC_narrow
  show I_C_narrow _ (0, [some (.ref 0), none, none, none, none, none, none], [], M)
  refine pm_irun 2 (σ' := (4, [some (.ref 0), none, none, none, none, none, none], [.ref 15], M)) rfl ?_
  refine pm_icI (as := [.ref 15]) (rest := []) rfl rfl rfl rfl (Nat.le_of_ble_eq_true rfl) rfl (fun r h => pm_Ev_mono (Nat.le_of_ble_eq_true rfl) (sTours_isSound_ok M r h)) (fun v2 M1 => ?_)
  show pm_Im _ _ _ _ _ _ (7, [some (.ref 0), none, none, none, none, none, none], [.int v2], M1)
  refine pm_iite (σ1 := (13, [some (.ref 0), none, none, none, none, none, none], [], M1)) (σ2 := (10, [some (.ref 0), none, none, none, none, none, none], [], M1)) rfl (fun _ => ?_) (fun _ => ?_)
  · refine pm_irun 2 (σ' := (15, [some (.ref 0), some (.int (-1 : Int32)), none, none, none, none, none], [], M1)) rfl ?_
    refine pm_irun 2 (σ' := (17, [some (.ref 0), some (.int (-1 : Int32)), some (.long (0 : Int64)), none, none, none, none], [], M1)) rfl ?_
    refine pm_irun 2 (σ' := (20, [some (.ref 0), some (.int (-1 : Int32)), some (.long (0 : Int64)), none, some (.int (0 : Int32)), none, none], [], M1)) rfl ?_
    refine pm_iloop (fun (g : Int32 → Int64 → Int32 → pm_M → Option (Int32 × pm_M)) => ∀ (x5 : Int32) (x6 : Int64) (x7 : Int32) (M4 : pm_M), I_C_narrow (g x5 x6 x7 M4) (20, [some (.ref 0), some (.int x5), some (.long x6), none, some (.int x7), none, none], [], M4)) (fun _ _ _ _ => pm_inone) (fun g3 hg3 x5 x6 x7 M4 => ?_) 1000000 _ _ _ _
    show I_C_narrow _ (20, [some (.ref 0), some (.int x5), some (.long x6), none, some (.int x7), none, none], [], M4)
    refine pm_irun 4 (σ' := (29, [some (.ref 0), some (.int x5), some (.long x6), none, some (.int x7), none, none], [.int (M4.1 1 0), .int x7], M4)) rfl ?_
    refine pm_iite (σ1 := (84, [some (.ref 0), some (.int x5), some (.long x6), none, some (.int x7), none, none], [], M4)) (σ2 := (32, [some (.ref 0), some (.int x5), some (.long x6), none, some (.int x7), none, none], [], M4)) rfl (fun _ => ?_) (fun _ => ?_)
    · refine pm_irun 1 (σ' := (85, [some (.ref 0), some (.int x5), some (.long x6), none, some (.int x7), none, none], [.int x5], M4)) rfl ?_
      exact pm_irI rfl rfl
    · refine pm_irun 4 (σ' := (41, [some (.ref 0), some (.int x5), some (.long x6), none, some (.int x7), none, none], [.int x7, .ref 2], M4)) rfl ?_
      refine pm_igd (σ1 := (42, [some (.ref 0), some (.int x5), some (.long x6), none, some (.int x7), none, none], [.int (M4.1 2 x7.toNatClampNeg)], M4)) rfl (fun _ => ?_)
      refine pm_irun 1 (σ' := (43, [some (.ref 0), some (.int x5), some (.long x6), none, some (.int x7), none, none], [.int (3 : Int32), .int (M4.1 2 x7.toNatClampNeg)], M4)) rfl ?_
      refine pm_iite (σ1 := (49, [some (.ref 0), some (.int x5), some (.long x6), none, some (.int x7), none, none], [], M4)) (σ2 := (46, [some (.ref 0), some (.int x5), some (.long x6), none, some (.int x7), none, none], [], M4)) rfl (fun _ => ?_) (fun _ => ?_)
      · refine pm_irun 3 (σ' := (55, [some (.ref 0), some (.int x5), some (.long x6), none, some (.int x7), none, none], [.int x7, .ref 23], M4)) rfl ?_
        refine pm_icL (as := [.ref 23, .int x7]) (rest := []) rfl rfl rfl rfl (Nat.le_of_ble_eq_true rfl) rfl (fun r h => pm_Ev_mono (Nat.le_of_ble_eq_true rfl) (sStates_busyAbove_ok x7 M4 r h)) (fun v9 M8 => ?_)
        show pm_Im _ _ _ _ _ _ (58, [some (.ref 0), some (.int x5), some (.long x6), none, some (.int x7), none, none], [.long v9], M8)
        refine pm_irun 1 (σ' := (60, [some (.ref 0), some (.int x5), some (.long x6), none, some (.int x7), some (.long v9), none], [], M8)) rfl ?_
        refine pm_irun 2 (σ' := (62, [some (.ref 0), some (.int x5), some (.long x6), none, some (.int x7), some (.long v9), none], [.int (-1 : Int32), .int x5], M8)) rfl ?_
        refine pm_ijn (fun (g : pm_M → Option (Int32 × pm_M)) => ∀ (M11 : pm_M), I_C_narrow (g M11) (72, [some (.ref 0), none, none, none, some (.int x7), some (.long v9), none], [], M11)) (fun (M11 : pm_M) => ?_) (fun j10 hj10 => ?_)
        · show I_C_narrow _ (72, [some (.ref 0), none, none, none, some (.int x7), some (.long v9), none], [], M11)
          refine pm_irun 2 (σ' := (75, [some (.ref 0), some (.int x7), none, none, some (.int x7), some (.long v9), none], [], M11)) rfl ?_
          refine pm_irun 2 (σ' := (78, [some (.ref 0), some (.int x7), some (.long v9), none, some (.int x7), some (.long v9), none], [], M11)) rfl ?_
          refine pm_irun 1 (σ' := (81, [some (.ref 0), some (.int x7), some (.long v9), none, some (.int (x7 + (1 : Int32))), some (.long v9), none], [], M11)) rfl ?_
          refine pm_ilt (fun y => (81, [some (.ref 0), some (.int x7), some (.long v9), none, some (.int y), some (.long v9), none], [], M11)) (fun x12 => ?_)
          refine pm_irun 1 (σ' := (20, [some (.ref 0), some (.int x7), some (.long v9), none, some (.int x12), some (.long v9), none], [], M11)) rfl ?_
          refine pm_iwk (al' := [some (.ref 0), some (.int x7), some (.long v9), none, some (.int x12), none, none]) (pm_wkS (pm_wkS (pm_wkS (pm_wkS (pm_wkS (pm_wkN (pm_wkS pm_wk0))))))) ?_
          exact hg3 _ _ _ _
        refine pm_iite (σ1 := (72, [some (.ref 0), some (.int x5), some (.long x6), none, some (.int x7), some (.long v9), none], [], M8)) (σ2 := (65, [some (.ref 0), some (.int x5), some (.long x6), none, some (.int x7), some (.long v9), none], [], M8)) rfl (fun _ => ?_) (fun _ => ?_)
        · refine pm_iwk (al' := [some (.ref 0), none, none, none, some (.int x7), some (.long v9), none]) (pm_wkS (pm_wkN (pm_wkN (pm_wkS (pm_wkS (pm_wkS (pm_wkS pm_wk0))))))) ?_
          exact hj10 _
        · refine pm_irun 3 (σ' := (69, [some (.ref 0), some (.int x5), some (.long x6), none, some (.int x7), some (.long v9), none], [.int (lg_cmp v9 x6)], M8)) rfl ?_
          refine pm_iite (σ1 := (78, [some (.ref 0), some (.int x5), some (.long x6), none, some (.int x7), some (.long v9), none], [], M8)) (σ2 := (72, [some (.ref 0), some (.int x5), some (.long x6), none, some (.int x7), some (.long v9), none], [], M8)) rfl (fun _ => ?_) (fun _ => ?_)
          · refine pm_irun 1 (σ' := (81, [some (.ref 0), some (.int x5), some (.long x6), none, some (.int (x7 + (1 : Int32))), some (.long v9), none], [], M8)) rfl ?_
            refine pm_ilt (fun y => (81, [some (.ref 0), some (.int x5), some (.long x6), none, some (.int y), some (.long v9), none], [], M8)) (fun x13 => ?_)
            refine pm_irun 1 (σ' := (20, [some (.ref 0), some (.int x5), some (.long x6), none, some (.int x13), some (.long v9), none], [], M8)) rfl ?_
            refine pm_iwk (al' := [some (.ref 0), some (.int x5), some (.long x6), none, some (.int x13), none, none]) (pm_wkS (pm_wkS (pm_wkS (pm_wkS (pm_wkS (pm_wkN (pm_wkS pm_wk0))))))) ?_
            exact hg3 _ _ _ _
          · refine pm_iwk (al' := [some (.ref 0), none, none, none, some (.int x7), some (.long v9), none]) (pm_wkS (pm_wkN (pm_wkN (pm_wkS (pm_wkS (pm_wkS (pm_wkS pm_wk0))))))) ?_
            exact hj10 _
      · refine pm_irun 2 (σ' := (81, [some (.ref 0), some (.int x5), some (.long x6), none, some (.int (x7 + (1 : Int32))), none, none], [], M4)) rfl ?_
        refine pm_ilt (fun y => (81, [some (.ref 0), some (.int x5), some (.long x6), none, some (.int y), none, none], [], M4)) (fun x14 => ?_)
        refine pm_irun 1 (σ' := (20, [some (.ref 0), some (.int x5), some (.long x6), none, some (.int x14), none, none], [], M4)) rfl ?_
        exact hg3 _ _ _ _
  · refine pm_irun 1 (σ' := (12, [some (.ref 0), none, none, none, none, none, none], [.int (-3 : Int32)], M1)) rfl ?_
    exact pm_irI rfl rfl
def sR_narrow  (M : pm_M) : Option (Int32 × pm_M) := pm_bd (sR_isSound M) fun v2 M1 => if ¬ v2 = 0 then (pm_bv (sR_constants (M1.1 49 1) (-1 : Int32) M1) fun M3 => pm_loop (fun _ _ _ => none) (fun (g4 : Int32 → Int32 → pm_M → Option (Int32 × pm_M)) x6 x7 M5 => if (M5.1 49 1) ≤ x7 then (some (x6, M5)) else (if pm_in x7 5 then (if (M5.1 50 x7.toNatClampNeg) = (3 : Int32) then (pm_lt ((x7 + (1 : Int32))) fun x8 => g4 x6 x8 M5) else (if x6 = (-1 : Int32) then (pm_lt ((x7 + (1 : Int32))) fun x9 => g4 x7 x9 M5) else (pm_bd (sR_busyAbove x7 M5) fun v11 M10 => pm_bd (sR_busyAbove x6 M10) fun v13 M12 => if (lg_cmp v11 v13) ≤ 0 then (pm_lt ((x7 + (1 : Int32))) fun x14 => g4 x6 x14 M12) else (pm_lt ((x7 + (1 : Int32))) fun x15 => g4 x7 x15 M12)))) else none)) 1000000 (-1 : Int32) (0 : Int32) M3) else (some ((-3 : Int32), M1))
abbrev I_R_narrow (sh : Option (Int32 × pm_M)) (σ : pm_St) : Prop := pm_Im none (pm_Ev 14) pm_T174 (some .int) pm_rI sh σ
set_option maxHeartbeats 4000000 in
set_option maxRecDepth 100000 in
theorem sR_narrow_ok  (M : pm_M) : ∀ r, sR_narrow  M = some r → pm_Ev 15 174 [.ref 49] M (pm_rI r).1 (pm_rI r).2 := by
  refine pm_meth (al := [some (.ref 49), none, none]) rfl rfl rfl rfl rfl ?_
  unfold sR_narrow
  show I_R_narrow _ (0, [some (.ref 49), none, none], [], M)
  refine pm_irun 1 (σ' := (1, [some (.ref 49), none, none], [.ref 49], M)) rfl ?_
  refine pm_icI (as := [.ref 49]) (rest := []) rfl rfl rfl rfl (Nat.le_of_ble_eq_true rfl) rfl (fun r h => pm_Ev_mono (Nat.le_of_ble_eq_true rfl) (sR_isSound_ok M r h)) (fun v2 M1 => ?_)
  show pm_Im _ _ _ _ _ _ (4, [some (.ref 49), none, none], [.int v2], M1)
  refine pm_iite (σ1 := (10, [some (.ref 49), none, none], [], M1)) (σ2 := (7, [some (.ref 49), none, none], [], M1)) rfl (fun _ => ?_) (fun _ => ?_)
  · refine pm_irun 4 (σ' := (16, [some (.ref 49), none, none], [.int (-1 : Int32), .int (M1.1 49 1), .ref 49], M1)) rfl ?_
    refine pm_icV (as := [.ref 49, .int (M1.1 49 1), .int (-1 : Int32)]) (rest := []) rfl rfl rfl rfl (Nat.le_of_ble_eq_true rfl) rfl (fun r h => pm_Ev_mono (Nat.le_of_ble_eq_true rfl) (sR_constants_ok (M1.1 49 1) (-1 : Int32) M1 r h)) (fun M3 => ?_)
    show pm_Im _ _ _ _ _ _ (19, [some (.ref 49), none, none], [], M3)
    refine pm_irun 2 (σ' := (21, [some (.ref 49), some (.int (-1 : Int32)), none], [], M3)) rfl ?_
    refine pm_irun 2 (σ' := (23, [some (.ref 49), some (.int (-1 : Int32)), some (.int (0 : Int32))], [], M3)) rfl ?_
    refine pm_iloop (fun (g : Int32 → Int32 → pm_M → Option (Int32 × pm_M)) => ∀ (x6 : Int32) (x7 : Int32) (M5 : pm_M), I_R_narrow (g x6 x7 M5) (23, [some (.ref 49), some (.int x6), some (.int x7)], [], M5)) (fun _ _ _ => pm_inone) (fun g4 hg4 x6 x7 M5 => ?_) 1000000 _ _ _
    show I_R_narrow _ (23, [some (.ref 49), some (.int x6), some (.int x7)], [], M5)
    refine pm_irun 3 (σ' := (28, [some (.ref 49), some (.int x6), some (.int x7)], [.int (M5.1 49 1), .int x7], M5)) rfl ?_
    refine pm_iite (σ1 := (68, [some (.ref 49), some (.int x6), some (.int x7)], [], M5)) (σ2 := (31, [some (.ref 49), some (.int x6), some (.int x7)], [], M5)) rfl (fun _ => ?_) (fun _ => ?_)
    · refine pm_irun 1 (σ' := (69, [some (.ref 49), some (.int x6), some (.int x7)], [.int x6], M5)) rfl ?_
      exact pm_irI rfl rfl
    · refine pm_irun 3 (σ' := (36, [some (.ref 49), some (.int x6), some (.int x7)], [.int x7, .ref 50], M5)) rfl ?_
      refine pm_igd (σ1 := (37, [some (.ref 49), some (.int x6), some (.int x7)], [.int (M5.1 50 x7.toNatClampNeg)], M5)) rfl (fun _ => ?_)
      refine pm_irun 1 (σ' := (38, [some (.ref 49), some (.int x6), some (.int x7)], [.int (3 : Int32), .int (M5.1 50 x7.toNatClampNeg)], M5)) rfl ?_
      refine pm_iite (σ1 := (62, [some (.ref 49), some (.int x6), some (.int x7)], [], M5)) (σ2 := (41, [some (.ref 49), some (.int x6), some (.int x7)], [], M5)) rfl (fun _ => ?_) (fun _ => ?_)
      · refine pm_irun 1 (σ' := (65, [some (.ref 49), some (.int x6), some (.int (x7 + (1 : Int32)))], [], M5)) rfl ?_
        refine pm_ilt (fun y => (65, [some (.ref 49), some (.int x6), some (.int y)], [], M5)) (fun x8 => ?_)
        refine pm_irun 1 (σ' := (23, [some (.ref 49), some (.int x6), some (.int x8)], [], M5)) rfl ?_
        exact hg4 _ _ _
      · refine pm_irun 2 (σ' := (43, [some (.ref 49), some (.int x6), some (.int x7)], [.int (-1 : Int32), .int x6], M5)) rfl ?_
        refine pm_iite (σ1 := (60, [some (.ref 49), some (.int x6), some (.int x7)], [], M5)) (σ2 := (46, [some (.ref 49), some (.int x6), some (.int x7)], [], M5)) rfl (fun _ => ?_) (fun _ => ?_)
        · refine pm_irun 2 (σ' := (62, [some (.ref 49), some (.int x7), some (.int x7)], [], M5)) rfl ?_
          refine pm_irun 1 (σ' := (65, [some (.ref 49), some (.int x7), some (.int (x7 + (1 : Int32)))], [], M5)) rfl ?_
          refine pm_ilt (fun y => (65, [some (.ref 49), some (.int x7), some (.int y)], [], M5)) (fun x9 => ?_)
          refine pm_irun 1 (σ' := (23, [some (.ref 49), some (.int x7), some (.int x9)], [], M5)) rfl ?_
          exact hg4 _ _ _
        · refine pm_irun 2 (σ' := (48, [some (.ref 49), some (.int x6), some (.int x7)], [.int x7, .ref 49], M5)) rfl ?_
          refine pm_icL (as := [.ref 49, .int x7]) (rest := []) rfl rfl rfl rfl (Nat.le_of_ble_eq_true rfl) rfl (fun r h => pm_Ev_mono (Nat.le_of_ble_eq_true rfl) (sR_busyAbove_ok x7 M5 r h)) (fun v11 M10 => ?_)
          show pm_Im _ _ _ _ _ _ (51, [some (.ref 49), some (.int x6), some (.int x7)], [.long v11], M10)
          refine pm_irun 2 (σ' := (53, [some (.ref 49), some (.int x6), some (.int x7)], [.int x6, .ref 49, .long v11], M10)) rfl ?_
          refine pm_icL (as := [.ref 49, .int x6]) (rest := [.long v11]) rfl rfl rfl rfl (Nat.le_of_ble_eq_true rfl) rfl (fun r h => pm_Ev_mono (Nat.le_of_ble_eq_true rfl) (sR_busyAbove_ok x6 M10 r h)) (fun v13 M12 => ?_)
          show pm_Im _ _ _ _ _ _ (56, [some (.ref 49), some (.int x6), some (.int x7)], [.long v13, .long v11], M12)
          refine pm_irun 1 (σ' := (57, [some (.ref 49), some (.int x6), some (.int x7)], [.int (lg_cmp v11 v13)], M12)) rfl ?_
          refine pm_iite (σ1 := (62, [some (.ref 49), some (.int x6), some (.int x7)], [], M12)) (σ2 := (60, [some (.ref 49), some (.int x6), some (.int x7)], [], M12)) rfl (fun _ => ?_) (fun _ => ?_)
          · refine pm_irun 1 (σ' := (65, [some (.ref 49), some (.int x6), some (.int (x7 + (1 : Int32)))], [], M12)) rfl ?_
            refine pm_ilt (fun y => (65, [some (.ref 49), some (.int x6), some (.int y)], [], M12)) (fun x14 => ?_)
            refine pm_irun 1 (σ' := (23, [some (.ref 49), some (.int x6), some (.int x14)], [], M12)) rfl ?_
            exact hg4 _ _ _
          · refine pm_irun 2 (σ' := (62, [some (.ref 49), some (.int x7), some (.int x7)], [], M12)) rfl ?_
            refine pm_irun 1 (σ' := (65, [some (.ref 49), some (.int x7), some (.int (x7 + (1 : Int32)))], [], M12)) rfl ?_
            refine pm_ilt (fun y => (65, [some (.ref 49), some (.int x7), some (.int y)], [], M12)) (fun x15 => ?_)
            refine pm_irun 1 (σ' := (23, [some (.ref 49), some (.int x7), some (.int x15)], [], M12)) rfl ?_
            exact hg4 _ _ _
  · refine pm_irun 1 (σ' := (9, [some (.ref 49), none, none], [.int (-3 : Int32)], M1)) rfl ?_
    exact pm_irI rfl rfl
def sStates_lessen (a1 : Int32) (a2 : Int32) (a3 : Int64) (M : pm_M) : Option (pm_M) := if pm_in ((a1 * (5 : Int32)) + a2) 10 then (pm_lt ((M.2 25 ((a1 * (5 : Int32)) + a2).toNatClampNeg)) fun x1 => if pm_in ((a1 * (5 : Int32)) + a2) 10 then (pm_lt (pm_sL M 25 ((a1 * (5 : Int32)) + a2).toNatClampNeg ((if (0 : Int64) < (x1 - a3) then (x1 - a3) else (0 : Int64)))) fun M2 => some M2) else none) else none
abbrev I_States_lessen (sh : Option (pm_M)) (σ : pm_St) : Prop := pm_Im none (pm_Ev 0) pm_T14 none pm_rV sh σ
set_option maxHeartbeats 4000000 in
set_option maxRecDepth 100000 in
theorem sStates_lessen_ok (a1 : Int32) (a2 : Int32) (a3 : Int64) (M : pm_M) : ∀ r, sStates_lessen a1 a2 a3 M = some r → pm_Ev 1 14 [.ref 23, .int a1, .int a2, .long a3] M (pm_rV r).1 (pm_rV r).2 := by
  refine pm_meth (al := [some (.ref 23), some (.int a1), some (.int a2), some (.long a3), none, none, none]) rfl rfl rfl rfl rfl ?_
  unfold sStates_lessen
  show I_States_lessen _ (0, [some (.ref 23), some (.int a1), some (.int a2), some (.long a3), none, none, none], [], M)
  refine pm_irun 7 (σ' := (9, [some (.ref 23), some (.int a1), some (.int a2), some (.long a3), none, none, none], [.int ((a1 * (5 : Int32)) + a2), .ref 25], M)) rfl ?_
  refine pm_igd (σ1 := (10, [some (.ref 23), some (.int a1), some (.int a2), some (.long a3), none, none, none], [.long (M.2 25 ((a1 * (5 : Int32)) + a2).toNatClampNeg)], M)) rfl (fun _ => ?_)
  refine pm_irun 1 (σ' := (12, [some (.ref 23), some (.int a1), some (.int a2), some (.long a3), none, some (.long (M.2 25 ((a1 * (5 : Int32)) + a2).toNatClampNeg)), none], [], M)) rfl ?_
  refine pm_ilt (fun y => (12, [some (.ref 23), some (.int a1), some (.int a2), some (.long a3), none, some (.long y), none], [], M)) (fun x1 => ?_)
  refine pm_irun 8 (σ' := (23, [some (.ref 23), some (.int a1), some (.int a2), some (.long a3), none, some (.long x1), none], [.long x1, .int ((a1 * (5 : Int32)) + a2), .ref 25], M)) rfl ?_
  refine pm_irun 3 (σ' := (26, [some (.ref 23), some (.int a1), some (.int a2), some (.long a3), none, some (.long x1), none], [.long (0 : Int64), .long (x1 - a3), .int ((a1 * (5 : Int32)) + a2), .ref 25], M)) rfl ?_
  refine pm_igt (c := (([.int ((a1 * (5 : Int32)) + a2), .ref 25] : List Value).map fun v => v.category).sum ≤ 8) (σ1 := (29, [some (.ref 23), some (.int a1), some (.int a2), some (.long a3), none, some (.long x1), none], [.long (if (0 : Int64) < (x1 - a3) then (x1 - a3) else (0 : Int64)), .int ((a1 * (5 : Int32)) + a2), .ref 25], M)) (Nat.le_of_ble_eq_true rfl) rfl ?_
  refine pm_igd (σ1 := (30, [some (.ref 23), some (.int a1), some (.int a2), some (.long a3), none, some (.long x1), none], [], (pm_sL M 25 ((a1 * (5 : Int32)) + a2).toNatClampNeg ((if (0 : Int64) < (x1 - a3) then (x1 - a3) else (0 : Int64)))))) rfl (fun _ => ?_)
  refine pm_ilt (fun y => (30, [some (.ref 23), some (.int a1), some (.int a2), some (.long a3), none, some (.long x1), none], [], y)) (fun M2 => ?_)
  exact pm_irV rfl rfl
def sC_hasten (a1 : Int32) (a2 : Int32) (M : pm_M) : Option (pm_M) := pm_bv (sStates_load M) fun M1 => pm_loop (fun _ _ => none) (fun (g2 : Int32 → pm_M → Option (pm_M)) x4 M3 => if (2 : Int32) ≤ x4 then (some M3) else (pm_jn (fun (q7 : Int32) (M6 : pm_M) => if q7 = 0 then (pm_lt ((x4 + (1 : Int32))) fun x8 => g2 x8 M6) else (pm_bd (sTours_visitsOf x4 a2 M6) fun v10 M9 => pm_bv (sStates_lessen x4 a2 v10 M9) fun M11 => pm_lt ((x4 + (1 : Int32))) fun x12 => g2 x12 M11)) fun (j5 : Int32 → pm_M → Option (pm_M)) => pm_jn (fun (M14 : pm_M) => j5 (1 : Int32) M14) fun (j13 : pm_M → Option (pm_M)) => if x4 = a1 then (j13 M3) else (if pm_in a2 5 then (if ¬ (M3.1 2 a2.toNatClampNeg) = 0 then (j5 (0 : Int32) M3) else (j13 M3)) else none))) 1000000 (0 : Int32) M1
abbrev I_C_hasten (sh : Option (pm_M)) (σ : pm_St) : Prop := pm_Im none (pm_Ev 2) pm_T111 none pm_rV sh σ
set_option maxHeartbeats 4000000 in
set_option maxRecDepth 100000 in
theorem sC_hasten_ok (a1 : Int32) (a2 : Int32) (M : pm_M) : ∀ r, sC_hasten a1 a2 M = some r → pm_Ev 3 111 [.ref 0, .int a1, .int a2] M (pm_rV r).1 (pm_rV r).2 := by
  refine pm_meth (al := [some (.ref 0), some (.int a1), some (.int a2), none, none]) rfl rfl rfl rfl rfl ?_
  unfold sC_hasten
  show I_C_hasten _ (0, [some (.ref 0), some (.int a1), some (.int a2), none, none], [], M)
  refine pm_irun 6 (σ' := (12, [some (.ref 0), some (.int a1), some (.int a2), none, none], [.ref 15, .ref 1, .ref 23], M)) rfl ?_
  refine pm_icV (as := [.ref 23, .ref 1, .ref 15]) (rest := []) rfl rfl rfl rfl (Nat.le_of_ble_eq_true rfl) rfl (fun r h => pm_Ev_mono (Nat.le_of_ble_eq_true rfl) (sStates_load_ok M r h)) (fun M1 => ?_)
  show pm_Im _ _ _ _ _ _ (15, [some (.ref 0), some (.int a1), some (.int a2), none, none], [], M1)
  refine pm_irun 2 (σ' := (17, [some (.ref 0), some (.int a1), some (.int a2), some (.int (0 : Int32)), none], [], M1)) rfl ?_
  refine pm_iloop (fun (g : Int32 → pm_M → Option (pm_M)) => ∀ (x4 : Int32) (M3 : pm_M), I_C_hasten (g x4 M3) (17, [some (.ref 0), some (.int a1), some (.int a2), some (.int x4), none], [], M3)) (fun _ _ => pm_inone) (fun g2 hg2 x4 M3 => ?_) 1000000 _ _
  show I_C_hasten _ (17, [some (.ref 0), some (.int a1), some (.int a2), some (.int x4), none], [], M3)
  refine pm_irun 2 (σ' := (19, [some (.ref 0), some (.int a1), some (.int a2), some (.int x4), none], [.int (2 : Int32), .int x4], M3)) rfl ?_
  refine pm_iite (σ1 := (75, [some (.ref 0), some (.int a1), some (.int a2), some (.int x4), none], [], M3)) (σ2 := (22, [some (.ref 0), some (.int a1), some (.int a2), some (.int x4), none], [], M3)) rfl (fun _ => ?_) (fun _ => ?_)
  · exact pm_irV rfl rfl
  · refine pm_irun 2 (σ' := (24, [some (.ref 0), some (.int a1), some (.int a2), some (.int x4), none], [.int a1, .int x4], M3)) rfl ?_
    refine pm_ijn (fun (g : Int32 → pm_M → Option (pm_M)) => ∀ (q7 : Int32) (M6 : pm_M), I_C_hasten (g q7 M6) (44, [some (.ref 0), some (.int a1), some (.int a2), some (.int x4), none], [.int q7], M6)) (fun (q7 : Int32) (M6 : pm_M) => ?_) (fun j5 hj5 => ?_)
    · show I_C_hasten _ (44, [some (.ref 0), some (.int a1), some (.int a2), some (.int x4), none], [.int q7], M6)
      refine pm_irun 1 (σ' := (46, [some (.ref 0), some (.int a1), some (.int a2), some (.int x4), some (.int q7)], [], M6)) rfl ?_
      refine pm_irun 1 (σ' := (48, [some (.ref 0), some (.int a1), some (.int a2), some (.int x4), some (.int q7)], [.int q7], M6)) rfl ?_
      refine pm_iite (σ1 := (69, [some (.ref 0), some (.int a1), some (.int a2), some (.int x4), some (.int q7)], [], M6)) (σ2 := (51, [some (.ref 0), some (.int a1), some (.int a2), some (.int x4), some (.int q7)], [], M6)) rfl (fun _ => ?_) (fun _ => ?_)
      · refine pm_irun 1 (σ' := (72, [some (.ref 0), some (.int a1), some (.int a2), some (.int (x4 + (1 : Int32))), some (.int q7)], [], M6)) rfl ?_
        refine pm_ilt (fun y => (72, [some (.ref 0), some (.int a1), some (.int a2), some (.int y), some (.int q7)], [], M6)) (fun x8 => ?_)
        refine pm_irun 1 (σ' := (17, [some (.ref 0), some (.int a1), some (.int a2), some (.int x8), some (.int q7)], [], M6)) rfl ?_
        refine pm_iwk (al' := [some (.ref 0), some (.int a1), some (.int a2), some (.int x8), none]) (pm_wkS (pm_wkS (pm_wkS (pm_wkS (pm_wkN pm_wk0))))) ?_
        exact hg2 _ _
      · refine pm_irun 8 (σ' := (63, [some (.ref 0), some (.int a1), some (.int a2), some (.int x4), some (.int q7)], [.int a2, .int x4, .ref 15, .int a2, .int x4, .ref 23], M6)) rfl ?_
        refine pm_icL (as := [.ref 15, .int x4, .int a2]) (rest := [.int a2, .int x4, .ref 23]) rfl rfl rfl rfl (Nat.le_of_ble_eq_true rfl) rfl (fun r h => pm_Ev_mono (Nat.le_of_ble_eq_true rfl) (sTours_visitsOf_ok x4 a2 M6 r h)) (fun v10 M9 => ?_)
        show pm_Im _ _ _ _ _ _ (66, [some (.ref 0), some (.int a1), some (.int a2), some (.int x4), some (.int q7)], [.long v10, .int a2, .int x4, .ref 23], M9)
        refine pm_icV (as := [.ref 23, .int x4, .int a2, .long v10]) (rest := []) rfl rfl rfl rfl (Nat.le_of_ble_eq_true rfl) rfl (fun r h => pm_Ev_mono (Nat.le_of_ble_eq_true rfl) (sStates_lessen_ok x4 a2 v10 M9 r h)) (fun M11 => ?_)
        show pm_Im _ _ _ _ _ _ (69, [some (.ref 0), some (.int a1), some (.int a2), some (.int x4), some (.int q7)], [], M11)
        refine pm_irun 1 (σ' := (72, [some (.ref 0), some (.int a1), some (.int a2), some (.int (x4 + (1 : Int32))), some (.int q7)], [], M11)) rfl ?_
        refine pm_ilt (fun y => (72, [some (.ref 0), some (.int a1), some (.int a2), some (.int y), some (.int q7)], [], M11)) (fun x12 => ?_)
        refine pm_irun 1 (σ' := (17, [some (.ref 0), some (.int a1), some (.int a2), some (.int x12), some (.int q7)], [], M11)) rfl ?_
        refine pm_iwk (al' := [some (.ref 0), some (.int a1), some (.int a2), some (.int x12), none]) (pm_wkS (pm_wkS (pm_wkS (pm_wkS (pm_wkN pm_wk0))))) ?_
        exact hg2 _ _
    refine pm_ijn (fun (g : pm_M → Option (pm_M)) => ∀ (M14 : pm_M), I_C_hasten (g M14) (39, [some (.ref 0), some (.int a1), some (.int a2), some (.int x4), none], [], M14)) (fun (M14 : pm_M) => ?_) (fun j13 hj13 => ?_)
    · show I_C_hasten _ (39, [some (.ref 0), some (.int a1), some (.int a2), some (.int x4), none], [], M14)
      refine pm_irun 2 (σ' := (44, [some (.ref 0), some (.int a1), some (.int a2), some (.int x4), none], [.int (1 : Int32)], M14)) rfl ?_
      exact hj5 _ _
    refine pm_iite (σ1 := (39, [some (.ref 0), some (.int a1), some (.int a2), some (.int x4), none], [], M3)) (σ2 := (27, [some (.ref 0), some (.int a1), some (.int a2), some (.int x4), none], [], M3)) rfl (fun _ => ?_) (fun _ => ?_)
    · exact hj13 _
    · refine pm_irun 4 (σ' := (35, [some (.ref 0), some (.int a1), some (.int a2), some (.int x4), none], [.int a2, .ref 2], M3)) rfl ?_
      refine pm_igd (σ1 := (36, [some (.ref 0), some (.int a1), some (.int a2), some (.int x4), none], [.int (M3.1 2 a2.toNatClampNeg)], M3)) rfl (fun _ => ?_)
      refine pm_iite (σ1 := (43, [some (.ref 0), some (.int a1), some (.int a2), some (.int x4), none], [], M3)) (σ2 := (39, [some (.ref 0), some (.int a1), some (.int a2), some (.int x4), none], [], M3)) rfl (fun _ => ?_) (fun _ => ?_)
      · refine pm_irun 1 (σ' := (44, [some (.ref 0), some (.int a1), some (.int a2), some (.int x4), none], [.int (0 : Int32)], M3)) rfl ?_
        exact hj5 _ _
      · exact hj13 _
def sJLong_compare (a1 : Int64) (a2 : Int64) (M : pm_M) : Option (Int32 × pm_M) := if 0 ≤ (lg_cmp a1 a2) then (if ¬ (lg_cmp a1 a2) = 0 then (some ((1 : Int32), M)) else (some ((0 : Int32), M))) else (some ((-1 : Int32), M))
abbrev I_JLong_compare (sh : Option (Int32 × pm_M)) (σ : pm_St) : Prop := pm_Im none (pm_Ev 0) pm_T206 (some .int) pm_rI sh σ
set_option maxHeartbeats 4000000 in
set_option maxRecDepth 100000 in
theorem sJLong_compare_ok (a1 : Int64) (a2 : Int64) (M : pm_M) : ∀ r, sJLong_compare a1 a2 M = some r → pm_Ev 1 206 [.long a1, .long a2] M (pm_rI r).1 (pm_rI r).2 := by
  refine pm_meth (al := [some (.long a1), none, some (.long a2), none]) rfl rfl rfl rfl rfl ?_
  unfold sJLong_compare
  show I_JLong_compare _ (0, [some (.long a1), none, some (.long a2), none], [], M)
  refine pm_irun 3 (σ' := (3, [some (.long a1), none, some (.long a2), none], [.int (lg_cmp a1 a2)], M)) rfl ?_
  refine pm_iite (σ1 := (10, [some (.long a1), none, some (.long a2), none], [], M)) (σ2 := (6, [some (.long a1), none, some (.long a2), none], [], M)) rfl (fun _ => ?_) (fun _ => ?_)
  · refine pm_irun 3 (σ' := (13, [some (.long a1), none, some (.long a2), none], [.int (lg_cmp a1 a2)], M)) rfl ?_
    refine pm_iite (σ1 := (20, [some (.long a1), none, some (.long a2), none], [], M)) (σ2 := (16, [some (.long a1), none, some (.long a2), none], [], M)) rfl (fun _ => ?_) (fun _ => ?_)
    · refine pm_irun 1 (σ' := (21, [some (.long a1), none, some (.long a2), none], [.int (1 : Int32)], M)) rfl ?_
      exact pm_irI rfl rfl
    · refine pm_irun 2 (σ' := (21, [some (.long a1), none, some (.long a2), none], [.int (0 : Int32)], M)) rfl ?_
      exact pm_irI rfl rfl
  · refine pm_irun 2 (σ' := (21, [some (.long a1), none, some (.long a2), none], [.int (-1 : Int32)], M)) rfl ?_
    exact pm_irI rfl rfl
