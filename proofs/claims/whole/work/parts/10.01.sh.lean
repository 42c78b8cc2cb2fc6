def sC_isKind (a1 : Int32) (M : pm_M) : Option (Int32 × pm_M) := if a1 < 0 then (some ((0 : Int32), M)) else (if (3 : Int32) < a1 then (some ((0 : Int32), M)) else (some ((1 : Int32), M)))
abbrev I_C_isKind (sh : Option (Int32 × pm_M)) (σ : pm_St) : Prop := pm_Im none (pm_Ev 0) pm_T96 (some .boolean) pm_rI sh σ
set_option maxHeartbeats 4000000 in
set_option maxRecDepth 100000 in
theorem sC_isKind_ok (a1 : Int32) (M : pm_M) : ∀ r, sC_isKind a1 M = some r → pm_Ev 1 96 [.int a1] M (pm_rI r).1 (pm_rI r).2 := by
  refine pm_meth (al := [some (.int a1)]) rfl rfl rfl rfl rfl ?_
  unfold sC_isKind
  show I_C_isKind _ (0, [some (.int a1)], [], M)
  refine pm_irun 1 (σ' := (1, [some (.int a1)], [.int a1], M)) rfl ?_
  refine pm_iite (σ1 := (13, [some (.int a1)], [], M)) (σ2 := (4, [some (.int a1)], [], M)) rfl (fun _ => ?_) (fun _ => ?_)
  · refine pm_irun 1 (σ' := (14, [some (.int a1)], [.int (0 : Int32)], M)) rfl ?_
    exact pm_irZ (Or.inl rfl) rfl rfl
  · refine pm_irun 2 (σ' := (6, [some (.int a1)], [.int (3 : Int32), .int a1], M)) rfl ?_
    refine pm_iite (σ1 := (13, [some (.int a1)], [], M)) (σ2 := (9, [some (.int a1)], [], M)) rfl (fun _ => ?_) (fun _ => ?_)
    · refine pm_irun 1 (σ' := (14, [some (.int a1)], [.int (0 : Int32)], M)) rfl ?_
      exact pm_irZ (Or.inl rfl) rfl rfl
    · refine pm_irun 2 (σ' := (14, [some (.int a1)], [.int (1 : Int32)], M)) rfl ?_
      exact pm_irZ (Or.inr rfl) rfl rfl
def sC_isTime (a1 : Int32) (M : pm_M) : Option (Int32 × pm_M) := if a1 < (1 : Int32) then (some ((0 : Int32), M)) else (if (9 : Int32) < a1 then (some ((0 : Int32), M)) else (some ((1 : Int32), M)))
abbrev I_C_isTime (sh : Option (Int32 × pm_M)) (σ : pm_St) : Prop := pm_Im none (pm_Ev 0) pm_T97 (some .boolean) pm_rI sh σ
set_option maxHeartbeats 4000000 in
set_option maxRecDepth 100000 in
theorem sC_isTime_ok (a1 : Int32) (M : pm_M) : ∀ r, sC_isTime a1 M = some r → pm_Ev 1 97 [.int a1] M (pm_rI r).1 (pm_rI r).2 := by
  refine pm_meth (al := [some (.int a1)]) rfl rfl rfl rfl rfl ?_
  unfold sC_isTime
  show I_C_isTime _ (0, [some (.int a1)], [], M)
  refine pm_irun 2 (σ' := (2, [some (.int a1)], [.int (1 : Int32), .int a1], M)) rfl ?_
  refine pm_iite (σ1 := (15, [some (.int a1)], [], M)) (σ2 := (5, [some (.int a1)], [], M)) rfl (fun _ => ?_) (fun _ => ?_)
  · refine pm_irun 1 (σ' := (16, [some (.int a1)], [.int (0 : Int32)], M)) rfl ?_
    exact pm_irZ (Or.inl rfl) rfl rfl
  · refine pm_irun 2 (σ' := (8, [some (.int a1)], [.int (9 : Int32), .int a1], M)) rfl ?_
    refine pm_iite (σ1 := (15, [some (.int a1)], [], M)) (σ2 := (11, [some (.int a1)], [], M)) rfl (fun _ => ?_) (fun _ => ?_)
    · refine pm_irun 1 (σ' := (16, [some (.int a1)], [.int (0 : Int32)], M)) rfl ?_
      exact pm_irZ (Or.inl rfl) rfl rfl
    · refine pm_irun 2 (σ' := (16, [some (.int a1)], [.int (1 : Int32)], M)) rfl ?_
      exact pm_irZ (Or.inr rfl) rfl rfl
def sJArr_fillI_32 (a2 : Int32) (M : pm_M) : Option (pm_M) := pm_loop (fun _ _ => none) (fun (g1 : Int32 → pm_M → Option (pm_M)) x3 M2 => if (5 : Int32) ≤ x3 then (some M2) else (if pm_in x3 5 then (pm_lt (pm_sI M2 32 x3.toNatClampNeg a2) fun M4 => pm_lt ((x3 + (1 : Int32))) fun x5 => g1 x5 M4) else none)) 1000000 (0 : Int32) M
abbrev I_JArr_fillI_32 (sh : Option (pm_M)) (σ : pm_St) : Prop := pm_Im none (pm_Ev 0) pm_T208 none pm_rV sh σ
set_option maxHeartbeats 4000000 in
set_option maxRecDepth 100000 in
theorem sJArr_fillI_32_ok (a2 : Int32) (M : pm_M) : ∀ r, sJArr_fillI_32 a2 M = some r → pm_Ev 1 208 [.ref 32, .int a2] M (pm_rV r).1 (pm_rV r).2 := by
  refine pm_meth (al := [some (.ref 32), some (.int a2), none, none]) rfl rfl rfl rfl rfl ?_
  unfold sJArr_fillI_32
  show I_JArr_fillI_32 _ (0, [some (.ref 32), some (.int a2), none, none], [], M)
  refine pm_irun 2 (σ' := (2, [some (.ref 32), some (.int a2), some (.int (0 : Int32)), none], [], M)) rfl ?_
  refine pm_irun 3 (σ' := (5, [some (.ref 32), some (.int a2), some (.int (0 : Int32)), some (.int (5 : Int32))], [], M)) rfl ?_
  refine pm_iloop (fun (g : Int32 → pm_M → Option (pm_M)) => ∀ (x3 : Int32) (M2 : pm_M), I_JArr_fillI_32 (g x3 M2) (5, [some (.ref 32), some (.int a2), some (.int x3), some (.int (5 : Int32))], [], M2)) (fun _ _ => pm_inone) (fun g1 hg1 x3 M2 => ?_) 1000000 _ _
  show I_JArr_fillI_32 _ (5, [some (.ref 32), some (.int a2), some (.int x3), some (.int (5 : Int32))], [], M2)
  refine pm_irun 2 (σ' := (7, [some (.ref 32), some (.int a2), some (.int x3), some (.int (5 : Int32))], [.int (5 : Int32), .int x3], M2)) rfl ?_
  refine pm_iite (σ1 := (20, [some (.ref 32), some (.int a2), some (.int x3), some (.int (5 : Int32))], [], M2)) (σ2 := (10, [some (.ref 32), some (.int a2), some (.int x3), some (.int (5 : Int32))], [], M2)) rfl (fun _ => ?_) (fun _ => ?_)
  · exact pm_irV rfl rfl
  · refine pm_irun 3 (σ' := (13, [some (.ref 32), some (.int a2), some (.int x3), some (.int (5 : Int32))], [.int a2, .int x3, .ref 32], M2)) rfl ?_
    refine pm_igd (σ1 := (14, [some (.ref 32), some (.int a2), some (.int x3), some (.int (5 : Int32))], [], (pm_sI M2 32 x3.toNatClampNeg a2))) rfl (fun _ => ?_)
    refine pm_ilt (fun y => (14, [some (.ref 32), some (.int a2), some (.int x3), some (.int (5 : Int32))], [], y)) (fun M4 => ?_)
    refine pm_irun 1 (σ' := (17, [some (.ref 32), some (.int a2), some (.int (x3 + (1 : Int32))), some (.int (5 : Int32))], [], M4)) rfl ?_
    refine pm_ilt (fun y => (17, [some (.ref 32), some (.int a2), some (.int y), some (.int (5 : Int32))], [], M4)) (fun x5 => ?_)
    refine pm_irun 1 (σ' := (5, [some (.ref 32), some (.int a2), some (.int x5), some (.int (5 : Int32))], [], M4)) rfl ?_
    exact hg1 _ _
def sJArr_fillI_35 (a2 : Int32) (M : pm_M) : Option (pm_M) := pm_loop (fun _ _ => none) (fun (g1 : Int32 → pm_M → Option (pm_M)) x3 M2 => if (10 : Int32) ≤ x3 then (some M2) else (if pm_in x3 10 then (pm_lt (pm_sI M2 35 x3.toNatClampNeg a2) fun M4 => pm_lt ((x3 + (1 : Int32))) fun x5 => g1 x5 M4) else none)) 1000000 (0 : Int32) M
abbrev I_JArr_fillI_35 (sh : Option (pm_M)) (σ : pm_St) : Prop := pm_Im none (pm_Ev 0) pm_T208 none pm_rV sh σ
set_option maxHeartbeats 4000000 in
set_option maxRecDepth 100000 in
theorem sJArr_fillI_35_ok (a2 : Int32) (M : pm_M) : ∀ r, sJArr_fillI_35 a2 M = some r → pm_Ev 1 208 [.ref 35, .int a2] M (pm_rV r).1 (pm_rV r).2 := by
  refine pm_meth (al := [some (.ref 35), some (.int a2), none, none]) rfl rfl rfl rfl rfl ?_
  unfold sJArr_fillI_35
  show I_JArr_fillI_35 _ (0, [some (.ref 35), some (.int a2), none, none], [], M)
  refine pm_irun 2 (σ' := (2, [some (.ref 35), some (.int a2), some (.int (0 : Int32)), none], [], M)) rfl ?_
  refine pm_irun 3 (σ' := (5, [some (.ref 35), some (.int a2), some (.int (0 : Int32)), some (.int (10 : Int32))], [], M)) rfl ?_
  refine pm_iloop (fun (g : Int32 → pm_M → Option (pm_M)) => ∀ (x3 : Int32) (M2 : pm_M), I_JArr_fillI_35 (g x3 M2) (5, [some (.ref 35), some (.int a2), some (.int x3), some (.int (10 : Int32))], [], M2)) (fun _ _ => pm_inone) (fun g1 hg1 x3 M2 => ?_) 1000000 _ _
  show I_JArr_fillI_35 _ (5, [some (.ref 35), some (.int a2), some (.int x3), some (.int (10 : Int32))], [], M2)
  refine pm_irun 2 (σ' := (7, [some (.ref 35), some (.int a2), some (.int x3), some (.int (10 : Int32))], [.int (10 : Int32), .int x3], M2)) rfl ?_
  refine pm_iite (σ1 := (20, [some (.ref 35), some (.int a2), some (.int x3), some (.int (10 : Int32))], [], M2)) (σ2 := (10, [some (.ref 35), some (.int a2), some (.int x3), some (.int (10 : Int32))], [], M2)) rfl (fun _ => ?_) (fun _ => ?_)
  · exact pm_irV rfl rfl
  · refine pm_irun 3 (σ' := (13, [some (.ref 35), some (.int a2), some (.int x3), some (.int (10 : Int32))], [.int a2, .int x3, .ref 35], M2)) rfl ?_
    refine pm_igd (σ1 := (14, [some (.ref 35), some (.int a2), some (.int x3), some (.int (10 : Int32))], [], (pm_sI M2 35 x3.toNatClampNeg a2))) rfl (fun _ => ?_)
    refine pm_ilt (fun y => (14, [some (.ref 35), some (.int a2), some (.int x3), some (.int (10 : Int32))], [], y)) (fun M4 => ?_)
    refine pm_irun 1 (σ' := (17, [some (.ref 35), some (.int a2), some (.int (x3 + (1 : Int32))), some (.int (10 : Int32))], [], M4)) rfl ?_
    refine pm_ilt (fun y => (17, [some (.ref 35), some (.int a2), some (.int y), some (.int (10 : Int32))], [], M4)) (fun x5 => ?_)
    refine pm_irun 1 (σ' := (5, [some (.ref 35), some (.int a2), some (.int x5), some (.int (10 : Int32))], [], M4)) rfl ?_
    exact hg1 _ _
def sTruth_forget  (M : pm_M) : Option (pm_M) := pm_lt (pm_sI M 30 0 (0 : Int32)) fun M1 => pm_lt (pm_sI M1 30 1 (0 : Int32)) fun M2 => pm_lt (pm_sI M2 30 3 (0 : Int32)) fun M3 => pm_bv (sJArr_fillI_32 (0 : Int32) M3) fun M4 => pm_bv (sJArr_fillI_35 (0 : Int32) M4) fun M5 => some M5
abbrev I_Truth_forget (sh : Option (pm_M)) (σ : pm_St) : Prop := pm_Im none (pm_Ev 1) pm_T45 none pm_rV sh σ
set_option maxHeartbeats 4000000 in
set_option maxRecDepth 100000 in
theorem sTruth_forget_ok  (M : pm_M) : ∀ r, sTruth_forget  M = some r → pm_Ev 2 45 [.ref 30] M (pm_rV r).1 (pm_rV r).2 := by
  refine pm_meth (al := [some (.ref 30)]) rfl rfl rfl rfl rfl ?_
  unfold sTruth_forget
  show I_Truth_forget _ (0, [some (.ref 30)], [], M)
  refine pm_irun 2 (σ' := (2, [some (.ref 30)], [.int (0 : Int32), .ref 30], M)) rfl ?_
  refine pm_igt (c := (0 : Int32) = 0 ∨ (0 : Int32) = 1) (σ1 := (5, [some (.ref 30)], [], (pm_sI M 30 0 (0 : Int32)))) (by decide) rfl ?_
  refine pm_ilt (fun y => (5, [some (.ref 30)], [], y)) (fun M1 => ?_)
  refine pm_irun 2 (σ' := (7, [some (.ref 30)], [.int (0 : Int32), .ref 30], M1)) rfl ?_
  refine pm_irun 1 (σ' := (10, [some (.ref 30)], [], (pm_sI M1 30 1 (0 : Int32)))) rfl ?_
  refine pm_ilt (fun y => (10, [some (.ref 30)], [], y)) (fun M2 => ?_)
  refine pm_irun 2 (σ' := (12, [some (.ref 30)], [.int (0 : Int32), .ref 30], M2)) rfl ?_
  refine pm_irun 1 (σ' := (15, [some (.ref 30)], [], (pm_sI M2 30 3 (0 : Int32)))) rfl ?_
  refine pm_ilt (fun y => (15, [some (.ref 30)], [], y)) (fun M3 => ?_)
  refine pm_irun 3 (σ' := (20, [some (.ref 30)], [.int (0 : Int32), .ref 32], M3)) rfl ?_
  refine pm_icV (as := [.ref 32, .int (0 : Int32)]) (rest := []) rfl rfl rfl rfl (Nat.le_of_ble_eq_true rfl) rfl (fun r h => pm_Ev_mono (Nat.le_of_ble_eq_true rfl) (sJArr_fillI_32_ok (0 : Int32) M3 r h)) (fun M4 => ?_)
  show pm_Im _ _ _ _ _ _ (23, [some (.ref 30)], [], M4)
  refine pm_irun 3 (σ' := (28, [some (.ref 30)], [.int (0 : Int32), .ref 35], M4)) rfl ?_
  refine pm_icV (as := [.ref 35, .int (0 : Int32)]) (rest := []) rfl rfl rfl rfl (Nat.le_of_ble_eq_true rfl) rfl (fun r h => pm_Ev_mono (Nat.le_of_ble_eq_true rfl) (sJArr_fillI_35_ok (0 : Int32) M4 r h)) (fun M5 => ?_)
  show pm_Im _ _ _ _ _ _ (31, [some (.ref 30)], [], M5)
  exact pm_irV rfl rfl
def sTours_hasBit (a1 : Int32) (a2 : Int32) (M : pm_M) : Option (Int32 × pm_M) := if ¬ ((a1 >>> (a2 &&& 31)) &&& (1 : Int32)) = (1 : Int32) then (some ((0 : Int32), M)) else (some ((1 : Int32), M))
abbrev I_Tours_hasBit (sh : Option (Int32 × pm_M)) (σ : pm_St) : Prop := pm_Im none (pm_Ev 0) pm_T40 (some .boolean) pm_rI sh σ
set_option maxHeartbeats 4000000 in
set_option maxRecDepth 100000 in
theorem sTours_hasBit_ok (a1 : Int32) (a2 : Int32) (M : pm_M) : ∀ r, sTours_hasBit a1 a2 M = some r → pm_Ev 1 40 [.int a1, .int a2] M (pm_rI r).1 (pm_rI r).2 := by
  refine pm_meth (al := [some (.int a1), some (.int a2)]) rfl rfl rfl rfl rfl ?_
  unfold sTours_hasBit
  show I_Tours_hasBit _ (0, [some (.int a1), some (.int a2)], [], M)
  refine pm_irun 6 (σ' := (6, [some (.int a1), some (.int a2)], [.int (1 : Int32), .int ((a1 >>> (a2 &&& 31)) &&& (1 : Int32))], M)) rfl ?_
  refine pm_iite (σ1 := (13, [some (.int a1), some (.int a2)], [], M)) (σ2 := (9, [some (.int a1), some (.int a2)], [], M)) rfl (fun _ => ?_) (fun _ => ?_)
  · refine pm_irun 1 (σ' := (14, [some (.int a1), some (.int a2)], [.int (0 : Int32)], M)) rfl ?_
    exact pm_irZ (Or.inl rfl) rfl rfl
  · refine pm_irun 2 (σ' := (14, [some (.int a1), some (.int a2)], [.int (1 : Int32)], M)) rfl ?_
    exact pm_irZ (Or.inr rfl) rfl rfl
def sNet_ledTo_1 (a1 : Int32) (a2 : Int32) (M : pm_M) : Option (Int32 × pm_M) := pm_lt ((((a1 * (5 : Int32)) + a2) * (5 : Int32))) fun x1 => pm_loop (fun _ _ _ => none) (fun (g2 : Int32 → Int32 → pm_M → Option (Int32 × pm_M)) x4 x5 M3 => if (M3.1 1 0) ≤ x5 then (some (x4, M3)) else (if pm_in (x1 + x5) 50 then (if (M3.1 6 (x1 + x5).toNatClampNeg) ≤ 0 then (pm_lt ((x5 + (1 : Int32))) fun x6 => g2 x4 x6 M3) else (pm_lt ((x4 ||| ((1 : Int32) <<< (x5 &&& 31)))) fun x7 => pm_lt ((x5 + (1 : Int32))) fun x8 => g2 x7 x8 M3)) else none)) 1000000 (0 : Int32) (0 : Int32) M
abbrev I_Net_ledTo_1 (sh : Option (Int32 × pm_M)) (σ : pm_St) : Prop := pm_Im none (pm_Ev 0) pm_T6 (some .int) pm_rI sh σ
set_option maxHeartbeats 4000000 in
set_option maxRecDepth 100000 in
theorem sNet_ledTo_1_ok (a1 : Int32) (a2 : Int32) (M : pm_M) : ∀ r, sNet_ledTo_1 a1 a2 M = some r → pm_Ev 1 6 [.ref 1, .int a1, .int a2] M (pm_rI r).1 (pm_rI r).2 := by
  refine pm_meth (al := [some (.ref 1), some (.int a1), some (.int a2), none, none, none]) rfl rfl rfl rfl rfl ?_
  unfold sNet_ledTo_1
  show I_Net_ledTo_1 _ (0, [some (.ref 1), some (.int a1), some (.int a2), none, none, none], [], M)
  refine pm_irun 8 (σ' := (8, [some (.ref 1), some (.int a1), some (.int a2), some (.int (((a1 * (5 : Int32)) + a2) * (5 : Int32))), none, none], [], M)) rfl ?_
  refine pm_ilt (fun y => (8, [some (.ref 1), some (.int a1), some (.int a2), some (.int y), none, none], [], M)) (fun x1 => ?_)
  refine pm_irun 2 (σ' := (11, [some (.ref 1), some (.int a1), some (.int a2), some (.int x1), some (.int (0 : Int32)), none], [], M)) rfl ?_
  refine pm_irun 2 (σ' := (14, [some (.ref 1), some (.int a1), some (.int a2), some (.int x1), some (.int (0 : Int32)), some (.int (0 : Int32))], [], M)) rfl ?_
  refine pm_iwk (al' := [some (.ref 1), none, none, some (.int x1), some (.int (0 : Int32)), some (.int (0 : Int32))]) (pm_wkS (pm_wkN (pm_wkN (pm_wkS (pm_wkS (pm_wkS pm_wk0)))))) ?_
  refine pm_iloop (fun (g : Int32 → Int32 → pm_M → Option (Int32 × pm_M)) => ∀ (x4 : Int32) (x5 : Int32) (M3 : pm_M), I_Net_ledTo_1 (g x4 x5 M3) (14, [some (.ref 1), none, none, some (.int x1), some (.int x4), some (.int x5)], [], M3)) (fun _ _ _ => pm_inone) (fun g2 hg2 x4 x5 M3 => ?_) 1000000 _ _ _
  show I_Net_ledTo_1 _ (14, [some (.ref 1), none, none, some (.int x1), some (.int x4), some (.int x5)], [], M3)
  refine pm_irun 3 (σ' := (20, [some (.ref 1), none, none, some (.int x1), some (.int x4), some (.int x5)], [.int (M3.1 1 0), .int x5], M3)) rfl ?_
  refine pm_iite (σ1 := (50, [some (.ref 1), none, none, some (.int x1), some (.int x4), some (.int x5)], [], M3)) (σ2 := (23, [some (.ref 1), none, none, some (.int x1), some (.int x4), some (.int x5)], [], M3)) rfl (fun _ => ?_) (fun _ => ?_)
  · refine pm_irun 1 (σ' := (52, [some (.ref 1), none, none, some (.int x1), some (.int x4), some (.int x5)], [.int x4], M3)) rfl ?_
    exact pm_irI rfl rfl
  · refine pm_irun 5 (σ' := (31, [some (.ref 1), none, none, some (.int x1), some (.int x4), some (.int x5)], [.int (x1 + x5), .ref 6], M3)) rfl ?_
    refine pm_igd (σ1 := (32, [some (.ref 1), none, none, some (.int x1), some (.int x4), some (.int x5)], [.int (M3.1 6 (x1 + x5).toNatClampNeg)], M3)) rfl (fun _ => ?_)
    refine pm_iite (σ1 := (44, [some (.ref 1), none, none, some (.int x1), some (.int x4), some (.int x5)], [], M3)) (σ2 := (35, [some (.ref 1), none, none, some (.int x1), some (.int x4), some (.int x5)], [], M3)) rfl (fun _ => ?_) (fun _ => ?_)
    · refine pm_irun 1 (σ' := (47, [some (.ref 1), none, none, some (.int x1), some (.int x4), some (.int (x5 + (1 : Int32)))], [], M3)) rfl ?_
      refine pm_ilt (fun y => (47, [some (.ref 1), none, none, some (.int x1), some (.int x4), some (.int y)], [], M3)) (fun x6 => ?_)
      refine pm_irun 1 (σ' := (14, [some (.ref 1), none, none, some (.int x1), some (.int x4), some (.int x6)], [], M3)) rfl ?_
      exact hg2 _ _ _
    · refine pm_irun 6 (σ' := (44, [some (.ref 1), none, none, some (.int x1), some (.int (x4 ||| ((1 : Int32) <<< (x5 &&& 31)))), some (.int x5)], [], M3)) rfl ?_
      refine pm_ilt (fun y => (44, [some (.ref 1), none, none, some (.int x1), some (.int y), some (.int x5)], [], M3)) (fun x7 => ?_)
      refine pm_irun 1 (σ' := (47, [some (.ref 1), none, none, some (.int x1), some (.int x7), some (.int (x5 + (1 : Int32)))], [], M3)) rfl ?_
      refine pm_ilt (fun y => (47, [some (.ref 1), none, none, some (.int x1), some (.int x7), some (.int y)], [], M3)) (fun x8 => ?_)
      refine pm_irun 1 (σ' := (14, [some (.ref 1), none, none, some (.int x1), some (.int x7), some (.int x8)], [], M3)) rfl ?_
      exact hg2 _ _ _
def sTours_findReached (a2 : Int32) (M : pm_M) : Option (Int32 × pm_M) := if pm_in a2 2 then (pm_jn (fun (q3 : Int32) (M2 : pm_M) => pm_loop (fun _ _ _ => none) (fun (g4 : Int32 → Int32 → pm_M → Option (Int32 × pm_M)) x6 x7 M5 => if (M5.1 1 0) ≤ x7 then (some (x6, M5)) else (pm_loop (fun _ _ _ => none) (fun (g8 : Int32 → Int32 → pm_M → Option (Int32 × pm_M)) x10 x11 M9 => if (M9.1 1 0) ≤ x11 then (pm_lt ((x7 + (1 : Int32))) fun x12 => g4 x10 x12 M9) else (pm_bd (sTours_hasBit x10 x11 M9) fun v14 M13 => if v14 = 0 then (pm_lt ((x11 + (1 : Int32))) fun x15 => g8 x10 x15 M13) else (pm_bd (sNet_ledTo_1 a2 x11 M13) fun v17 M16 => pm_lt ((x10 ||| v17)) fun x18 => pm_lt ((x11 + (1 : Int32))) fun x19 => g8 x18 x19 M16))) 1000000 x6 (0 : Int32) M5)) 1000000 q3 (0 : Int32) M2) fun (j1 : Int32 → pm_M → Option (Int32 × pm_M)) => if ¬ (M.1 4 a2.toNatClampNeg) = (-1 : Int32) then (if pm_in a2 2 then (j1 (((1 : Int32) <<< ((M.1 4 a2.toNatClampNeg) &&& 31))) M) else none) else (j1 (0 : Int32) M)) else none
abbrev I_Tours_findReached (sh : Option (Int32 × pm_M)) (σ : pm_St) : Prop := pm_Im none (pm_Ev 1) pm_T41 (some .int) pm_rI sh σ
set_option maxHeartbeats 4000000 in
set_option maxRecDepth 100000 in
theorem sTours_findReached_ok (a2 : Int32) (M : pm_M) : ∀ r, sTours_findReached a2 M = some r → pm_Ev 2 41 [.ref 1, .int a2] M (pm_rI r).1 (pm_rI r).2 := by
  refine pm_meth (al := [some (.ref 1), some (.int a2), none, none, none]) rfl rfl rfl rfl rfl ?_
  unfold sTours_findReached
  show I_Tours_findReached _ (0, [some (.ref 1), some (.int a2), none, none, none], [], M)
  refine pm_irun 3 (σ' := (5, [some (.ref 1), some (.int a2), none, none, none], [.int a2, .ref 4], M)) rfl ?_
  refine pm_igd (σ1 := (6, [some (.ref 1), some (.int a2), none, none, none], [.int (M.1 4 a2.toNatClampNeg)], M)) rfl (fun _ => ?_)
  refine pm_irun 1 (σ' := (7, [some (.ref 1), some (.int a2), none, none, none], [.int (-1 : Int32), .int (M.1 4 a2.toNatClampNeg)], M)) rfl ?_
  refine pm_ijn (fun (g : Int32 → pm_M → Option (Int32 × pm_M)) => ∀ (q3 : Int32) (M2 : pm_M), I_Tours_findReached (g q3 M2) (22, [some (.ref 1), some (.int a2), none, none, none], [.int q3], M2)) (fun (q3 : Int32) (M2 : pm_M) => ?_) (fun j1 hj1 => ?_)
  · show I_Tours_findReached _ (22, [some (.ref 1), some (.int a2), none, none, none], [.int q3], M2)
    refine pm_irun 1 (σ' := (23, [some (.ref 1), some (.int a2), some (.int q3), none, none], [], M2)) rfl ?_
    refine pm_irun 2 (σ' := (25, [some (.ref 1), some (.int a2), some (.int q3), some (.int (0 : Int32)), none], [], M2)) rfl ?_
    refine pm_iloop (fun (g : Int32 → Int32 → pm_M → Option (Int32 × pm_M)) => ∀ (x6 : Int32) (x7 : Int32) (M5 : pm_M), I_Tours_findReached (g x6 x7 M5) (25, [some (.ref 1), some (.int a2), some (.int x6), some (.int x7), none], [], M5)) (fun _ _ _ => pm_inone) (fun g4 hg4 x6 x7 M5 => ?_) 1000000 _ _ _
    show I_Tours_findReached _ (25, [some (.ref 1), some (.int a2), some (.int x6), some (.int x7), none], [], M5)
    refine pm_irun 3 (σ' := (30, [some (.ref 1), some (.int a2), some (.int x6), some (.int x7), none], [.int (M5.1 1 0), .int x7], M5)) rfl ?_
    refine pm_iite (σ1 := (76, [some (.ref 1), some (.int a2), some (.int x6), some (.int x7), none], [], M5)) (σ2 := (33, [some (.ref 1), some (.int a2), some (.int x6), some (.int x7), none], [], M5)) rfl (fun _ => ?_) (fun _ => ?_)
    · refine pm_irun 1 (σ' := (77, [some (.ref 1), some (.int a2), some (.int x6), some (.int x7), none], [.int x6], M5)) rfl ?_
      exact pm_irI rfl rfl
    · refine pm_irun 2 (σ' := (36, [some (.ref 1), some (.int a2), some (.int x6), some (.int x7), some (.int (0 : Int32))], [], M5)) rfl ?_
      refine pm_iloop (fun (g : Int32 → Int32 → pm_M → Option (Int32 × pm_M)) => ∀ (x10 : Int32) (x11 : Int32) (M9 : pm_M), I_Tours_findReached (g x10 x11 M9) (36, [some (.ref 1), some (.int a2), some (.int x10), some (.int x7), some (.int x11)], [], M9)) (fun _ _ _ => pm_inone) (fun g8 hg8 x10 x11 M9 => ?_) 1000000 _ _ _
      show I_Tours_findReached _ (36, [some (.ref 1), some (.int a2), some (.int x10), some (.int x7), some (.int x11)], [], M9)
      refine pm_irun 3 (σ' := (42, [some (.ref 1), some (.int a2), some (.int x10), some (.int x7), some (.int x11)], [.int (M9.1 1 0), .int x11], M9)) rfl ?_
      refine pm_iite (σ1 := (70, [some (.ref 1), some (.int a2), some (.int x10), some (.int x7), some (.int x11)], [], M9)) (σ2 := (45, [some (.ref 1), some (.int a2), some (.int x10), some (.int x7), some (.int x11)], [], M9)) rfl (fun _ => ?_) (fun _ => ?_)
      · refine pm_irun 1 (σ' := (73, [some (.ref 1), some (.int a2), some (.int x10), some (.int (x7 + (1 : Int32))), some (.int x11)], [], M9)) rfl ?_
        refine pm_ilt (fun y => (73, [some (.ref 1), some (.int a2), some (.int x10), some (.int y), some (.int x11)], [], M9)) (fun x12 => ?_)
        refine pm_irun 1 (σ' := (25, [some (.ref 1), some (.int a2), some (.int x10), some (.int x12), some (.int x11)], [], M9)) rfl ?_
        refine pm_iwk (al' := [some (.ref 1), some (.int a2), some (.int x10), some (.int x12), none]) (pm_wkS (pm_wkS (pm_wkS (pm_wkS (pm_wkN pm_wk0))))) ?_
        exact hg4 _ _ _
      · refine pm_irun 2 (σ' := (48, [some (.ref 1), some (.int a2), some (.int x10), some (.int x7), some (.int x11)], [.int x11, .int x10], M9)) rfl ?_
        refine pm_icI (as := [.int x10, .int x11]) (rest := []) rfl rfl rfl rfl (Nat.le_of_ble_eq_true rfl) rfl (fun r h => pm_Ev_mono (Nat.le_of_ble_eq_true rfl) (sTours_hasBit_ok x10 x11 M9 r h)) (fun v14 M13 => ?_)
        show pm_Im _ _ _ _ _ _ (51, [some (.ref 1), some (.int a2), some (.int x10), some (.int x7), some (.int x11)], [.int v14], M13)
        refine pm_iite (σ1 := (64, [some (.ref 1), some (.int a2), some (.int x10), some (.int x7), some (.int x11)], [], M13)) (σ2 := (54, [some (.ref 1), some (.int a2), some (.int x10), some (.int x7), some (.int x11)], [], M13)) rfl (fun _ => ?_) (fun _ => ?_)
        · refine pm_irun 1 (σ' := (67, [some (.ref 1), some (.int a2), some (.int x10), some (.int x7), some (.int (x11 + (1 : Int32)))], [], M13)) rfl ?_
          refine pm_ilt (fun y => (67, [some (.ref 1), some (.int a2), some (.int x10), some (.int x7), some (.int y)], [], M13)) (fun x15 => ?_)
          refine pm_irun 1 (σ' := (36, [some (.ref 1), some (.int a2), some (.int x10), some (.int x7), some (.int x15)], [], M13)) rfl ?_
          exact hg8 _ _ _
        · refine pm_irun 4 (σ' := (59, [some (.ref 1), some (.int a2), some (.int x10), some (.int x7), some (.int x11)], [.int x11, .int a2, .ref 1, .int x10], M13)) rfl ?_
          refine pm_icI (as := [.ref 1, .int a2, .int x11]) (rest := [.int x10]) rfl rfl rfl rfl (Nat.le_of_ble_eq_true rfl) rfl (fun r h => pm_Ev_mono (Nat.le_of_ble_eq_true rfl) (sNet_ledTo_1_ok a2 x11 M13 r h)) (fun v17 M16 => ?_)
          show pm_Im _ _ _ _ _ _ (62, [some (.ref 1), some (.int a2), some (.int x10), some (.int x7), some (.int x11)], [.int v17, .int x10], M16)
          refine pm_irun 2 (σ' := (64, [some (.ref 1), some (.int a2), some (.int (x10 ||| v17)), some (.int x7), some (.int x11)], [], M16)) rfl ?_
          refine pm_ilt (fun y => (64, [some (.ref 1), some (.int a2), some (.int y), some (.int x7), some (.int x11)], [], M16)) (fun x18 => ?_)
          refine pm_irun 1 (σ' := (67, [some (.ref 1), some (.int a2), some (.int x18), some (.int x7), some (.int (x11 + (1 : Int32)))], [], M16)) rfl ?_
          refine pm_ilt (fun y => (67, [some (.ref 1), some (.int a2), some (.int x18), some (.int x7), some (.int y)], [], M16)) (fun x19 => ?_)
          refine pm_irun 1 (σ' := (36, [some (.ref 1), some (.int a2), some (.int x18), some (.int x7), some (.int x19)], [], M16)) rfl ?_
          exact hg8 _ _ _
  refine pm_iite (σ1 := (14, [some (.ref 1), some (.int a2), none, none, none], [], M)) (σ2 := (10, [some (.ref 1), some (.int a2), none, none, none], [], M)) rfl (fun _ => ?_) (fun _ => ?_)
  · refine pm_irun 4 (σ' := (20, [some (.ref 1), some (.int a2), none, none, none], [.int a2, .ref 4, .int (1 : Int32)], M)) rfl ?_
    refine pm_igd (σ1 := (21, [some (.ref 1), some (.int a2), none, none, none], [.int (M.1 4 a2.toNatClampNeg), .int (1 : Int32)], M)) rfl (fun _ => ?_)
    refine pm_irun 1 (σ' := (22, [some (.ref 1), some (.int a2), none, none, none], [.int ((1 : Int32) <<< ((M.1 4 a2.toNatClampNeg) &&& 31))], M)) rfl ?_
    exact hj1 _ _
  · refine pm_irun 2 (σ' := (22, [some (.ref 1), some (.int a2), none, none, none], [.int (0 : Int32)], M)) rfl ?_
    exact hj1 _ _
def sNet_timeOf_1 (a1 : Int32) (a2 : Int32) (M : pm_M) : Option (Int32 × pm_M) := if pm_in a2 5 then (if ¬ (M.1 2 a2.toNatClampNeg) = 0 then (if pm_in ((a1 * (5 : Int32)) + a2) 10 then (some ((M.1 3 ((a1 * (5 : Int32)) + a2).toNatClampNeg), M)) else none) else (if pm_in a2 10 then (some ((M.1 3 a2.toNatClampNeg), M)) else none)) else none
abbrev I_Net_timeOf_1 (sh : Option (Int32 × pm_M)) (σ : pm_St) : Prop := pm_Im none (pm_Ev 0) pm_T2 (some .int) pm_rI sh σ
set_option maxHeartbeats 4000000 in
set_option maxRecDepth 100000 in
theorem sNet_timeOf_1_ok (a1 : Int32) (a2 : Int32) (M : pm_M) : ∀ r, sNet_timeOf_1 a1 a2 M = some r → pm_Ev 1 2 [.ref 1, .int a1, .int a2] M (pm_rI r).1 (pm_rI r).2 := by
  refine pm_meth (al := [some (.ref 1), some (.int a1), some (.int a2)]) rfl rfl rfl rfl rfl ?_
  unfold sNet_timeOf_1
  show I_Net_timeOf_1 _ (0, [some (.ref 1), some (.int a1), some (.int a2)], [], M)
  refine pm_irun 3 (σ' := (5, [some (.ref 1), some (.int a1), some (.int a2)], [.int a2, .ref 2], M)) rfl ?_
  refine pm_igd (σ1 := (6, [some (.ref 1), some (.int a1), some (.int a2)], [.int (M.1 2 a2.toNatClampNeg)], M)) rfl (fun _ => ?_)
  refine pm_iite (σ1 := (18, [some (.ref 1), some (.int a1), some (.int a2)], [], M)) (σ2 := (9, [some (.ref 1), some (.int a1), some (.int a2)], [], M)) rfl (fun _ => ?_) (fun _ => ?_)
  · refine pm_irun 7 (σ' := (27, [some (.ref 1), some (.int a1), some (.int a2)], [.int ((a1 * (5 : Int32)) + a2), .ref 3], M)) rfl ?_
    refine pm_igd (σ1 := (28, [some (.ref 1), some (.int a1), some (.int a2)], [.int (M.1 3 ((a1 * (5 : Int32)) + a2).toNatClampNeg)], M)) rfl (fun _ => ?_)
    exact pm_irI rfl rfl
  · refine pm_irun 3 (σ' := (14, [some (.ref 1), some (.int a1), some (.int a2)], [.int a2, .ref 3], M)) rfl ?_
    refine pm_igd (σ1 := (15, [some (.ref 1), some (.int a1), some (.int a2)], [.int (M.1 3 a2.toNatClampNeg)], M)) rfl (fun _ => ?_)
    refine pm_irun 1 (σ' := (28, [some (.ref 1), some (.int a1), some (.int a2)], [.int (M.1 3 a2.toNatClampNeg)], M)) rfl ?_
    exact pm_irI rfl rfl
def sC_commonDivisor (a1 : Int64) (a2 : Int64) (M : pm_M) : Option (Int64 × pm_M) := pm_lt ((if 0 < a1 then a1 else -a1)) fun x1 => pm_lt ((if 0 < a2 then a2 else -a2)) fun x2 => pm_loop (fun _ _ _ _ => none) (fun (g3 : Int64 → Int64 → Int32 → pm_M → Option (Int64 × pm_M)) x5 x6 x7 M4 => if (200 : Int32) ≤ x7 then (some (x5, M4)) else (if (lg_cmp x6 (0 : Int64)) = 0 then (some (x5, M4)) else (if ¬ x6 = 0 then (pm_lt ((x5 - x5 / x6 * x6)) fun x8 => pm_lt ((x7 + (1 : Int32))) fun x9 => g3 x6 x8 x9 M4) else none))) 1000000 x1 x2 (0 : Int32) M
abbrev I_C_commonDivisor (sh : Option (Int64 × pm_M)) (σ : pm_St) : Prop := pm_Im none (pm_Ev 0) pm_T114 (some .long) pm_rL sh σ
set_option maxHeartbeats 4000000 in
set_option maxRecDepth 100000 in
theorem sC_commonDivisor_ok (a1 : Int64) (a2 : Int64) (M : pm_M) : ∀ r, sC_commonDivisor a1 a2 M = some r → pm_Ev 1 114 [.long a1, .long a2] M (pm_rL r).1 (pm_rL r).2 := by
  refine pm_meth (al := [some (.long a1), none, some (.long a2), none, none, none, none, none, none, none, none]) rfl rfl rfl rfl rfl ?_
  unfold sC_commonDivisor
  show I_C_commonDivisor _ (0, [some (.long a1), none, some (.long a2), none, none, none, none, none, none, none, none], [], M)
  refine pm_irun 1 (σ' := (1, [some (.long a1), none, some (.long a2), none, none, none, none, none, none, none, none], [.long a1], M)) rfl ?_
  refine pm_igt (c := (([] : List Value).map fun v => v.category).sum ≤ 8) (σ1 := (4, [some (.long a1), none, some (.long a2), none, none, none, none, none, none, none, none], [.long (if 0 < a1 then a1 else -a1)], M)) (Nat.le_of_ble_eq_true rfl) rfl ?_
  refine pm_irun 1 (σ' := (6, [some (.long a1), none, some (.long a2), none, some (.long (if 0 < a1 then a1 else -a1)), none, none, none, none, none, none], [], M)) rfl ?_
  refine pm_ilt (fun y => (6, [some (.long a1), none, some (.long a2), none, some (.long y), none, none, none, none, none, none], [], M)) (fun x1 => ?_)
  refine pm_irun 1 (σ' := (7, [some (.long a1), none, some (.long a2), none, some (.long x1), none, none, none, none, none, none], [.long a2], M)) rfl ?_
  refine pm_igt (c := (([] : List Value).map fun v => v.category).sum ≤ 8) (σ1 := (10, [some (.long a1), none, some (.long a2), none, some (.long x1), none, none, none, none, none, none], [.long (if 0 < a2 then a2 else -a2)], M)) (Nat.le_of_ble_eq_true rfl) rfl ?_
  refine pm_irun 1 (σ' := (12, [some (.long a1), none, some (.long a2), none, some (.long x1), none, some (.long (if 0 < a2 then a2 else -a2)), none, none, none, none], [], M)) rfl ?_
  refine pm_ilt (fun y => (12, [some (.long a1), none, some (.long a2), none, some (.long x1), none, some (.long y), none, none, none, none], [], M)) (fun x2 => ?_)
  refine pm_irun 2 (σ' := (15, [some (.long a1), none, some (.long a2), none, some (.long x1), none, some (.long x2), none, some (.int (0 : Int32)), none, none], [], M)) rfl ?_
  refine pm_iwk (al' := [none, none, none, none, some (.long x1), none, some (.long x2), none, some (.int (0 : Int32)), none, none]) (pm_wkN (pm_wkS (pm_wkN (pm_wkS (pm_wkS (pm_wkS (pm_wkS (pm_wkS (pm_wkS (pm_wkS (pm_wkS pm_wk0))))))))))) ?_
  refine pm_iloop (fun (g : Int64 → Int64 → Int32 → pm_M → Option (Int64 × pm_M)) => ∀ (x5 : Int64) (x6 : Int64) (x7 : Int32) (M4 : pm_M), I_C_commonDivisor (g x5 x6 x7 M4) (15, [none, none, none, none, some (.long x5), none, some (.long x6), none, some (.int x7), none, none], [], M4)) (fun _ _ _ _ => pm_inone) (fun g3 hg3 x5 x6 x7 M4 => ?_) 1000000 _ _ _ _
  show I_C_commonDivisor _ (15, [none, none, none, none, some (.long x5), none, some (.long x6), none, some (.int x7), none, none], [], M4)
  refine pm_irun 2 (σ' := (20, [none, none, none, none, some (.long x5), none, some (.long x6), none, some (.int x7), none, none], [.int (200 : Int32), .int x7], M4)) rfl ?_
  refine pm_iite (σ1 := (51, [none, none, none, none, some (.long x5), none, some (.long x6), none, some (.int x7), none, none], [], M4)) (σ2 := (23, [none, none, none, none, some (.long x5), none, some (.long x6), none, some (.int x7), none, none], [], M4)) rfl (fun _ => ?_) (fun _ => ?_)
  · refine pm_irun 1 (σ' := (53, [none, none, none, none, some (.long x5), none, some (.long x6), none, some (.int x7), none, none], [.long x5], M4)) rfl ?_
    exact pm_irL rfl rfl
  · refine pm_irun 3 (σ' := (27, [none, none, none, none, some (.long x5), none, some (.long x6), none, some (.int x7), none, none], [.int (lg_cmp x6 (0 : Int64))], M4)) rfl ?_
    refine pm_iite (σ1 := (51, [none, none, none, none, some (.long x5), none, some (.long x6), none, some (.int x7), none, none], [], M4)) (σ2 := (30, [none, none, none, none, some (.long x5), none, some (.long x6), none, some (.int x7), none, none], [], M4)) rfl (fun _ => ?_) (fun _ => ?_)
    · refine pm_irun 1 (σ' := (53, [none, none, none, none, some (.long x5), none, some (.long x6), none, some (.int x7), none, none], [.long x5], M4)) rfl ?_
      exact pm_irL rfl rfl
    · refine pm_irun 2 (σ' := (34, [none, none, none, none, some (.long x5), none, some (.long x6), none, some (.int x7), none, none], [.long x6, .long x5], M4)) rfl ?_
      refine pm_igd (σ1 := (35, [none, none, none, none, some (.long x5), none, some (.long x6), none, some (.int x7), none, none], [.long (x5 - x5 / x6 * x6)], M4)) rfl (fun _ => ?_)
      refine pm_irun 1 (σ' := (37, [none, none, none, none, some (.long x5), none, some (.long x6), none, some (.int x7), some (.long (x5 - x5 / x6 * x6)), none], [], M4)) rfl ?_
      refine pm_ilt (fun y => (37, [none, none, none, none, some (.long x5), none, some (.long x6), none, some (.int x7), some (.long y), none], [], M4)) (fun x8 => ?_)
      refine pm_irun 2 (σ' := (41, [none, none, none, none, some (.long x6), none, some (.long x6), none, some (.int x7), some (.long x8), none], [], M4)) rfl ?_
      refine pm_irun 2 (σ' := (45, [none, none, none, none, some (.long x6), none, some (.long x8), none, some (.int x7), some (.long x8), none], [], M4)) rfl ?_
      refine pm_irun 1 (σ' := (48, [none, none, none, none, some (.long x6), none, some (.long x8), none, some (.int (x7 + (1 : Int32))), some (.long x8), none], [], M4)) rfl ?_
      refine pm_ilt (fun y => (48, [none, none, none, none, some (.long x6), none, some (.long x8), none, some (.int y), some (.long x8), none], [], M4)) (fun x9 => ?_)
      refine pm_irun 1 (σ' := (15, [none, none, none, none, some (.long x6), none, some (.long x8), none, some (.int x9), some (.long x8), none], [], M4)) rfl ?_
      refine pm_iwk (al' := [none, none, none, none, some (.long x6), none, some (.long x8), none, some (.int x9), none, none]) (pm_wkS (pm_wkS (pm_wkS (pm_wkS (pm_wkS (pm_wkS (pm_wkS (pm_wkS (pm_wkS (pm_wkN (pm_wkS pm_wk0))))))))))) ?_
      exact hg3 _ _ _ _
def sTours_determinant (a1 : Int32) (M : pm_M) : Option (Int64 × pm_M) := pm_loop (fun _ _ _ => none) (fun (g1 : Int64 → Int32 → pm_M → Option (Int64 × pm_M)) x3 x4 M2 => if a1 ≤ x4 then (some (x3, M2)) else (if pm_in ((x4 * (5 : Int32)) + x4) 25 then (pm_lt ((M2.2 22 ((x4 * (5 : Int32)) + x4).toNatClampNeg)) fun x5 => if ¬ (lg_cmp x5 (0 : Int64)) = 0 then (pm_lt ((x4 + (1 : Int32))) fun x6 => pm_loop (fun _ _ => none) (fun (g7 : Int32 → pm_M → Option (Int64 × pm_M)) x9 M8 => if a1 ≤ x9 then (pm_lt ((x4 + (1 : Int32))) fun x10 => g1 x5 x10 M8) else (pm_lt ((x4 + (1 : Int32))) fun x11 => pm_loop (fun _ _ => none) (fun (g12 : Int32 → pm_M → Option (Int64 × pm_M)) x14 M13 => if a1 ≤ x14 then (pm_lt ((x9 + (1 : Int32))) fun x15 => g7 x15 M13) else (pm_lt (((x9 * (5 : Int32)) + x14)) fun x16 => if pm_in ((x9 * (5 : Int32)) + x4) 25 then (if pm_in ((x4 * (5 : Int32)) + x14) 25 then (pm_lt (((M13.2 22 ((x9 * (5 : Int32)) + x4).toNatClampNeg) * (M13.2 22 ((x4 * (5 : Int32)) + x14).toNatClampNeg))) fun x17 => if pm_in x16 25 then (if ¬ x3 = 0 then (if pm_in x16 25 then (pm_lt (pm_sL M13 22 x16.toNatClampNeg (((((M13.2 22 x16.toNatClampNeg) * x5) - x17) / x3))) fun M18 => pm_lt ((x14 + (1 : Int32))) fun x19 => g12 x19 M18) else none) else none) else none) else none) else none)) 1000000 x11 M8)) 1000000 x6 M2) else (some ((0 : Int64), M2))) else none)) 1000000 (1 : Int64) (0 : Int32) M
abbrev I_Tours_determinant (sh : Option (Int64 × pm_M)) (σ : pm_St) : Prop := pm_Im none (pm_Ev 0) pm_T44 (some .long) pm_rL sh σ
set_option maxHeartbeats 4000000 in
set_option maxRecDepth 100000 in
theorem sTours_determinant_ok (a1 : Int32) (M : pm_M) : ∀ r, sTours_determinant a1 M = some r → pm_Ev 1 44 [.ref 15, .int a1] M (pm_rL r).1 (pm_rL r).2 := by
  refine pm_meth (al := [some (.ref 15), some (.int a1), none, none, none, none, none, none, none, none, none, none]) rfl rfl rfl rfl rfl ?_
  unfold sTours_determinant
  show I_Tours_determinant _ (0, [some (.ref 15), some (.int a1), none, none, none, none, none, none, none, none, none, none], [], M)
  refine pm_irun 2 (σ' := (2, [some (.ref 15), some (.int a1), some (.long (1 : Int64)), none, none, none, none, none, none, none, none, none], [], M)) rfl ?_
  refine pm_irun 2 (σ' := (5, [some (.ref 15), some (.int a1), some (.long (1 : Int64)), none, some (.int (0 : Int32)), none, none, none, none, none, none, none], [], M)) rfl ?_
  refine pm_iloop (fun (g : Int64 → Int32 → pm_M → Option (Int64 × pm_M)) => ∀ (x3 : Int64) (x4 : Int32) (M2 : pm_M), I_Tours_determinant (g x3 x4 M2) (5, [some (.ref 15), some (.int a1), some (.long x3), none, some (.int x4), none, none, none, none, none, none, none], [], M2)) (fun _ _ _ => pm_inone) (fun g1 hg1 x3 x4 M2 => ?_) 1000000 _ _ _
  show I_Tours_determinant _ (5, [some (.ref 15), some (.int a1), some (.long x3), none, some (.int x4), none, none, none, none, none, none, none], [], M2)
  refine pm_irun 2 (σ' := (8, [some (.ref 15), some (.int a1), some (.long x3), none, some (.int x4), none, none, none, none, none, none, none], [.int a1, .int x4], M2)) rfl ?_
  refine pm_iite (σ1 := (137, [some (.ref 15), some (.int a1), some (.long x3), none, some (.int x4), none, none, none, none, none, none, none], [], M2)) (σ2 := (11, [some (.ref 15), some (.int a1), some (.long x3), none, some (.int x4), none, none, none, none, none, none, none], [], M2)) rfl (fun _ => ?_) (fun _ => ?_)
  · refine pm_irun 1 (σ' := (138, [some (.ref 15), some (.int a1), some (.long x3), none, some (.int x4), none, none, none, none, none, none, none], [.long x3], M2)) rfl ?_
    exact pm_irL rfl rfl
  · refine pm_irun 7 (σ' := (22, [some (.ref 15), some (.int a1), some (.long x3), none, some (.int x4), none, none, none, none, none, none, none], [.int ((x4 * (5 : Int32)) + x4), .ref 22], M2)) rfl ?_
    refine pm_igd (σ1 := (23, [some (.ref 15), some (.int a1), some (.long x3), none, some (.int x4), none, none, none, none, none, none, none], [.long (M2.2 22 ((x4 * (5 : Int32)) + x4).toNatClampNeg)], M2)) rfl (fun _ => ?_)
    refine pm_irun 1 (σ' := (25, [some (.ref 15), some (.int a1), some (.long x3), none, some (.int x4), some (.long (M2.2 22 ((x4 * (5 : Int32)) + x4).toNatClampNeg)), none, none, none, none, none, none], [], M2)) rfl ?_
    refine pm_ilt (fun y => (25, [some (.ref 15), some (.int a1), some (.long x3), none, some (.int x4), some (.long y), none, none, none, none, none, none], [], M2)) (fun x5 => ?_)
    refine pm_irun 3 (σ' := (29, [some (.ref 15), some (.int a1), some (.long x3), none, some (.int x4), some (.long x5), none, none, none, none, none, none], [.int (lg_cmp x5 (0 : Int64))], M2)) rfl ?_
    refine pm_iite (σ1 := (34, [some (.ref 15), some (.int a1), some (.long x3), none, some (.int x4), some (.long x5), none, none, none, none, none, none], [], M2)) (σ2 := (32, [some (.ref 15), some (.int a1), some (.long x3), none, some (.int x4), some (.long x5), none, none, none, none, none, none], [], M2)) rfl (fun _ => ?_) (fun _ => ?_)
    · refine pm_irun 4 (σ' := (40, [some (.ref 15), some (.int a1), some (.long x3), none, some (.int x4), some (.long x5), none, some (.int (x4 + (1 : Int32))), none, none, none, none], [], M2)) rfl ?_
      refine pm_ilt (fun y => (40, [some (.ref 15), some (.int a1), some (.long x3), none, some (.int x4), some (.long x5), none, some (.int y), none, none, none, none], [], M2)) (fun x6 => ?_)
      refine pm_iloop (fun (g : Int32 → pm_M → Option (Int64 × pm_M)) => ∀ (x9 : Int32) (M8 : pm_M), I_Tours_determinant (g x9 M8) (40, [some (.ref 15), some (.int a1), some (.long x3), none, some (.int x4), some (.long x5), none, some (.int x9), none, none, none, none], [], M8)) (fun _ _ => pm_inone) (fun g7 hg7 x9 M8 => ?_) 1000000 _ _
      show I_Tours_determinant _ (40, [some (.ref 15), some (.int a1), some (.long x3), none, some (.int x4), some (.long x5), none, some (.int x9), none, none, none, none], [], M8)
      refine pm_irun 2 (σ' := (43, [some (.ref 15), some (.int a1), some (.long x3), none, some (.int x4), some (.long x5), none, some (.int x9), none, none, none, none], [.int a1, .int x9], M8)) rfl ?_
      refine pm_iite (σ1 := (128, [some (.ref 15), some (.int a1), some (.long x3), none, some (.int x4), some (.long x5), none, some (.int x9), none, none, none, none], [], M8)) (σ2 := (46, [some (.ref 15), some (.int a1), some (.long x3), none, some (.int x4), some (.long x5), none, some (.int x9), none, none, none, none], [], M8)) rfl (fun _ => ?_) (fun _ => ?_)
      · refine pm_irun 2 (σ' := (131, [some (.ref 15), some (.int a1), some (.long x5), none, some (.int x4), some (.long x5), none, some (.int x9), none, none, none, none], [], M8)) rfl ?_
        refine pm_irun 1 (σ' := (134, [some (.ref 15), some (.int a1), some (.long x5), none, some (.int (x4 + (1 : Int32))), some (.long x5), none, some (.int x9), none, none, none, none], [], M8)) rfl ?_
        refine pm_ilt (fun y => (134, [some (.ref 15), some (.int a1), some (.long x5), none, some (.int y), some (.long x5), none, some (.int x9), none, none, none, none], [], M8)) (fun x10 => ?_)
        refine pm_irun 1 (σ' := (5, [some (.ref 15), some (.int a1), some (.long x5), none, some (.int x10), some (.long x5), none, some (.int x9), none, none, none, none], [], M8)) rfl ?_
        refine pm_iwk (al' := [some (.ref 15), some (.int a1), some (.long x5), none, some (.int x10), none, none, none, none, none, none, none]) (pm_wkS (pm_wkS (pm_wkS (pm_wkS (pm_wkS (pm_wkN (pm_wkS (pm_wkN (pm_wkS (pm_wkS (pm_wkS (pm_wkS pm_wk0)))))))))))) ?_
        exact hg1 _ _ _
      · refine pm_irun 4 (σ' := (52, [some (.ref 15), some (.int a1), some (.long x3), none, some (.int x4), some (.long x5), none, some (.int x9), some (.int (x4 + (1 : Int32))), none, none, none], [], M8)) rfl ?_
        refine pm_ilt (fun y => (52, [some (.ref 15), some (.int a1), some (.long x3), none, some (.int x4), some (.long x5), none, some (.int x9), some (.int y), none, none, none], [], M8)) (fun x11 => ?_)
        refine pm_iloop (fun (g : Int32 → pm_M → Option (Int64 × pm_M)) => ∀ (x14 : Int32) (M13 : pm_M), I_Tours_determinant (g x14 M13) (52, [some (.ref 15), some (.int a1), some (.long x3), none, some (.int x4), some (.long x5), none, some (.int x9), some (.int x14), none, none, none], [], M13)) (fun _ _ => pm_inone) (fun g12 hg12 x14 M13 => ?_) 1000000 _ _
        show I_Tours_determinant _ (52, [some (.ref 15), some (.int a1), some (.long x3), none, some (.int x4), some (.long x5), none, some (.int x9), some (.int x14), none, none, none], [], M13)
        refine pm_irun 2 (σ' := (55, [some (.ref 15), some (.int a1), some (.long x3), none, some (.int x4), some (.long x5), none, some (.int x9), some (.int x14), none, none, none], [.int a1, .int x14], M13)) rfl ?_
        refine pm_iite (σ1 := (122, [some (.ref 15), some (.int a1), some (.long x3), none, some (.int x4), some (.long x5), none, some (.int x9), some (.int x14), none, none, none], [], M13)) (σ2 := (58, [some (.ref 15), some (.int a1), some (.long x3), none, some (.int x4), some (.long x5), none, some (.int x9), some (.int x14), none, none, none], [], M13)) rfl (fun _ => ?_) (fun _ => ?_)
        · refine pm_irun 1 (σ' := (125, [some (.ref 15), some (.int a1), some (.long x3), none, some (.int x4), some (.long x5), none, some (.int (x9 + (1 : Int32))), some (.int x14), none, none, none], [], M13)) rfl ?_
          refine pm_ilt (fun y => (125, [some (.ref 15), some (.int a1), some (.long x3), none, some (.int x4), some (.long x5), none, some (.int y), some (.int x14), none, none, none], [], M13)) (fun x15 => ?_)
          refine pm_irun 1 (σ' := (40, [some (.ref 15), some (.int a1), some (.long x3), none, some (.int x4), some (.long x5), none, some (.int x15), some (.int x14), none, none, none], [], M13)) rfl ?_
          refine pm_iwk (al' := [some (.ref 15), some (.int a1), some (.long x3), none, some (.int x4), some (.long x5), none, some (.int x15), none, none, none, none]) (pm_wkS (pm_wkS (pm_wkS (pm_wkS (pm_wkS (pm_wkS (pm_wkS (pm_wkS (pm_wkN (pm_wkS (pm_wkS (pm_wkS pm_wk0)))))))))))) ?_
          exact hg7 _ _
        · refine pm_irun 6 (σ' := (67, [some (.ref 15), some (.int a1), some (.long x3), none, some (.int x4), some (.long x5), none, some (.int x9), some (.int x14), some (.int ((x9 * (5 : Int32)) + x14)), none, none], [], M13)) rfl ?_
          refine pm_ilt (fun y => (67, [some (.ref 15), some (.int a1), some (.long x3), none, some (.int x4), some (.long x5), none, some (.int x9), some (.int x14), some (.int y), none, none], [], M13)) (fun x16 => ?_)
          refine pm_irun 7 (σ' := (78, [some (.ref 15), some (.int a1), some (.long x3), none, some (.int x4), some (.long x5), none, some (.int x9), some (.int x14), some (.int x16), none, none], [.int ((x9 * (5 : Int32)) + x4), .ref 22], M13)) rfl ?_
          refine pm_igd (σ1 := (79, [some (.ref 15), some (.int a1), some (.long x3), none, some (.int x4), some (.long x5), none, some (.int x9), some (.int x14), some (.int x16), none, none], [.long (M13.2 22 ((x9 * (5 : Int32)) + x4).toNatClampNeg)], M13)) rfl (fun _ => ?_)
          refine pm_irun 7 (σ' := (90, [some (.ref 15), some (.int a1), some (.long x3), none, some (.int x4), some (.long x5), none, some (.int x9), some (.int x14), some (.int x16), none, none], [.int ((x4 * (5 : Int32)) + x14), .ref 22, .long (M13.2 22 ((x9 * (5 : Int32)) + x4).toNatClampNeg)], M13)) rfl ?_
          refine pm_igd (σ1 := (91, [some (.ref 15), some (.int a1), some (.long x3), none, some (.int x4), some (.long x5), none, some (.int x9), some (.int x14), some (.int x16), none, none], [.long (M13.2 22 ((x4 * (5 : Int32)) + x14).toNatClampNeg), .long (M13.2 22 ((x9 * (5 : Int32)) + x4).toNatClampNeg)], M13)) rfl (fun _ => ?_)
          refine pm_irun 2 (σ' := (94, [some (.ref 15), some (.int a1), some (.long x3), none, some (.int x4), some (.long x5), none, some (.int x9), some (.int x14), some (.int x16), some (.long ((M13.2 22 ((x9 * (5 : Int32)) + x4).toNatClampNeg) * (M13.2 22 ((x4 * (5 : Int32)) + x14).toNatClampNeg))), none], [], M13)) rfl ?_
          refine pm_ilt (fun y => (94, [some (.ref 15), some (.int a1), some (.long x3), none, some (.int x4), some (.long x5), none, some (.int x9), some (.int x14), some (.int x16), some (.long y), none], [], M13)) (fun x17 => ?_)
          refine pm_irun 6 (σ' := (106, [some (.ref 15), some (.int a1), some (.long x3), none, some (.int x4), some (.long x5), none, some (.int x9), some (.int x14), some (.int x16), some (.long x17), none], [.int x16, .ref 22, .int x16, .ref 22], M13)) rfl ?_
          refine pm_igd (σ1 := (107, [some (.ref 15), some (.int a1), some (.long x3), none, some (.int x4), some (.long x5), none, some (.int x9), some (.int x14), some (.int x16), some (.long x17), none], [.long (M13.2 22 x16.toNatClampNeg), .int x16, .ref 22], M13)) rfl (fun _ => ?_)
          refine pm_irun 5 (σ' := (114, [some (.ref 15), some (.int a1), some (.long x3), none, some (.int x4), some (.long x5), none, some (.int x9), some (.int x14), some (.int x16), some (.long x17), none], [.long x3, .long (((M13.2 22 x16.toNatClampNeg) * x5) - x17), .int x16, .ref 22], M13)) rfl ?_
          refine pm_igd (σ1 := (115, [some (.ref 15), some (.int a1), some (.long x3), none, some (.int x4), some (.long x5), none, some (.int x9), some (.int x14), some (.int x16), some (.long x17), none], [.long ((((M13.2 22 x16.toNatClampNeg) * x5) - x17) / x3), .int x16, .ref 22], M13)) rfl (fun _ => ?_)
          refine pm_igd (σ1 := (116, [some (.ref 15), some (.int a1), some (.long x3), none, some (.int x4), some (.long x5), none, some (.int x9), some (.int x14), some (.int x16), some (.long x17), none], [], (pm_sL M13 22 x16.toNatClampNeg (((((M13.2 22 x16.toNatClampNeg) * x5) - x17) / x3))))) rfl (fun _ => ?_)
          refine pm_ilt (fun y => (116, [some (.ref 15), some (.int a1), some (.long x3), none, some (.int x4), some (.long x5), none, some (.int x9), some (.int x14), some (.int x16), some (.long x17), none], [], y)) (fun M18 => ?_)
          refine pm_irun 1 (σ' := (119, [some (.ref 15), some (.int a1), some (.long x3), none, some (.int x4), some (.long x5), none, some (.int x9), some (.int (x14 + (1 : Int32))), some (.int x16), some (.long x17), none], [], M18)) rfl ?_
          refine pm_ilt (fun y => (119, [some (.ref 15), some (.int a1), some (.long x3), none, some (.int x4), some (.long x5), none, some (.int x9), some (.int y), some (.int x16), some (.long x17), none], [], M18)) (fun x19 => ?_)
          refine pm_irun 1 (σ' := (52, [some (.ref 15), some (.int a1), some (.long x3), none, some (.int x4), some (.long x5), none, some (.int x9), some (.int x19), some (.int x16), some (.long x17), none], [], M18)) rfl ?_
          refine pm_iwk (al' := [some (.ref 15), some (.int a1), some (.long x3), none, some (.int x4), some (.long x5), none, some (.int x9), some (.int x19), none, none, none]) (pm_wkS (pm_wkS (pm_wkS (pm_wkS (pm_wkS (pm_wkS (pm_wkS (pm_wkS (pm_wkS (pm_wkN (pm_wkN (pm_wkS pm_wk0)))))))))))) ?_
          exact hg12 _ _
    · refine pm_irun 1 (σ' := (33, [some (.ref 15), some (.int a1), some (.long x3), none, some (.int x4), some (.long x5), none, none, none, none, none, none], [.long (0 : Int64)], M2)) rfl ?_
      exact pm_irL rfl rfl
def sNet_weightsFrom_1 (a1 : Int32) (a2 : Int32) (M : pm_M) : Option (Int32 × pm_M) := pm_lt ((((a1 * (5 : Int32)) + a2) * (5 : Int32))) fun x1 => pm_loop (fun _ _ _ => none) (fun (g2 : Int32 → Int32 → pm_M → Option (Int32 × pm_M)) x4 x5 M3 => if (M3.1 1 0) ≤ x5 then (some (x4, M3)) else (if pm_in (x1 + x5) 50 then (pm_lt ((x4 + (M3.1 6 (x1 + x5).toNatClampNeg))) fun x6 => pm_lt ((x5 + (1 : Int32))) fun x7 => g2 x6 x7 M3) else none)) 1000000 (0 : Int32) (0 : Int32) M
abbrev I_Net_weightsFrom_1 (sh : Option (Int32 × pm_M)) (σ : pm_St) : Prop := pm_Im none (pm_Ev 0) pm_T5 (some .int) pm_rI sh σ
set_option maxHeartbeats 4000000 in
set_option maxRecDepth 100000 in
theorem sNet_weightsFrom_1_ok (a1 : Int32) (a2 : Int32) (M : pm_M) : ∀ r, sNet_weightsFrom_1 a1 a2 M = some r → pm_Ev 1 5 [.ref 1, .int a1, .int a2] M (pm_rI r).1 (pm_rI r).2 := by
  refine pm_meth (al := [some (.ref 1), some (.int a1), some (.int a2), none, none, none]) rfl rfl rfl rfl rfl ?_
  unfold sNet_weightsFrom_1
  show I_Net_weightsFrom_1 _ (0, [some (.ref 1), some (.int a1), some (.int a2), none, none, none], [], M)
  refine pm_irun 8 (σ' := (8, [some (.ref 1), some (.int a1), some (.int a2), some (.int (((a1 * (5 : Int32)) + a2) * (5 : Int32))), none, none], [], M)) rfl ?_
  refine pm_ilt (fun y => (8, [some (.ref 1), some (.int a1), some (.int a2), some (.int y), none, none], [], M)) (fun x1 => ?_)
  refine pm_irun 2 (σ' := (11, [some (.ref 1), some (.int a1), some (.int a2), some (.int x1), some (.int (0 : Int32)), none], [], M)) rfl ?_
  refine pm_irun 2 (σ' := (14, [some (.ref 1), some (.int a1), some (.int a2), some (.int x1), some (.int (0 : Int32)), some (.int (0 : Int32))], [], M)) rfl ?_
  refine pm_iwk (al' := [some (.ref 1), none, none, some (.int x1), some (.int (0 : Int32)), some (.int (0 : Int32))]) (pm_wkS (pm_wkN (pm_wkN (pm_wkS (pm_wkS (pm_wkS pm_wk0)))))) ?_
  refine pm_iloop (fun (g : Int32 → Int32 → pm_M → Option (Int32 × pm_M)) => ∀ (x4 : Int32) (x5 : Int32) (M3 : pm_M), I_Net_weightsFrom_1 (g x4 x5 M3) (14, [some (.ref 1), none, none, some (.int x1), some (.int x4), some (.int x5)], [], M3)) (fun _ _ _ => pm_inone) (fun g2 hg2 x4 x5 M3 => ?_) 1000000 _ _ _
  show I_Net_weightsFrom_1 _ (14, [some (.ref 1), none, none, some (.int x1), some (.int x4), some (.int x5)], [], M3)
  refine pm_irun 3 (σ' := (20, [some (.ref 1), none, none, some (.int x1), some (.int x4), some (.int x5)], [.int (M3.1 1 0), .int x5], M3)) rfl ?_
  refine pm_iite (σ1 := (43, [some (.ref 1), none, none, some (.int x1), some (.int x4), some (.int x5)], [], M3)) (σ2 := (23, [some (.ref 1), none, none, some (.int x1), some (.int x4), some (.int x5)], [], M3)) rfl (fun _ => ?_) (fun _ => ?_)
  · refine pm_irun 1 (σ' := (45, [some (.ref 1), none, none, some (.int x1), some (.int x4), some (.int x5)], [.int x4], M3)) rfl ?_
    exact pm_irI rfl rfl
  · refine pm_irun 6 (σ' := (33, [some (.ref 1), none, none, some (.int x1), some (.int x4), some (.int x5)], [.int (x1 + x5), .ref 6, .int x4], M3)) rfl ?_
    refine pm_igd (σ1 := (34, [some (.ref 1), none, none, some (.int x1), some (.int x4), some (.int x5)], [.int (M3.1 6 (x1 + x5).toNatClampNeg), .int x4], M3)) rfl (fun _ => ?_)
    refine pm_irun 2 (σ' := (37, [some (.ref 1), none, none, some (.int x1), some (.int (x4 + (M3.1 6 (x1 + x5).toNatClampNeg))), some (.int x5)], [], M3)) rfl ?_
    refine pm_ilt (fun y => (37, [some (.ref 1), none, none, some (.int x1), some (.int y), some (.int x5)], [], M3)) (fun x6 => ?_)
    refine pm_irun 1 (σ' := (40, [some (.ref 1), none, none, some (.int x1), some (.int x6), some (.int (x5 + (1 : Int32)))], [], M3)) rfl ?_
    refine pm_ilt (fun y => (40, [some (.ref 1), none, none, some (.int x1), some (.int x6), some (.int y)], [], M3)) (fun x7 => ?_)
    refine pm_irun 1 (σ' := (14, [some (.ref 1), none, none, some (.int x1), some (.int x6), some (.int x7)], [], M3)) rfl ?_
    exact hg2 _ _ _
def sNet_weightOf_1 (a1 : Int32) (a2 : Int32) (a3 : Int32) (M : pm_M) : Option (Int32 × pm_M) := if pm_in ((((a1 * (5 : Int32)) + a2) * (5 : Int32)) + a3) 50 then (some ((M.1 6 ((((a1 * (5 : Int32)) + a2) * (5 : Int32)) + a3).toNatClampNeg), M)) else none
abbrev I_Net_weightOf_1 (sh : Option (Int32 × pm_M)) (σ : pm_St) : Prop := pm_Im none (pm_Ev 0) pm_T3 (some .int) pm_rI sh σ
set_option maxHeartbeats 4000000 in
set_option maxRecDepth 100000 in
theorem sNet_weightOf_1_ok (a1 : Int32) (a2 : Int32) (a3 : Int32) (M : pm_M) : ∀ r, sNet_weightOf_1 a1 a2 a3 M = some r → pm_Ev 1 3 [.ref 1, .int a1, .int a2, .int a3] M (pm_rI r).1 (pm_rI r).2 := by
  refine pm_meth (al := [some (.ref 1), some (.int a1), some (.int a2), some (.int a3)]) rfl rfl rfl rfl rfl ?_
  unfold sNet_weightOf_1
  show I_Net_weightOf_1 _ (0, [some (.ref 1), some (.int a1), some (.int a2), some (.int a3)], [], M)
  refine pm_irun 8 (σ' := (10, [some (.ref 1), some (.int a1), some (.int a2), some (.int a3)], [.int (5 : Int32), .int ((a1 * (5 : Int32)) + a2), .ref 6], M)) rfl ?_
  refine pm_irun 3 (σ' := (13, [some (.ref 1), some (.int a1), some (.int a2), some (.int a3)], [.int ((((a1 * (5 : Int32)) + a2) * (5 : Int32)) + a3), .ref 6], M)) rfl ?_
  refine pm_igd (σ1 := (14, [some (.ref 1), some (.int a1), some (.int a2), some (.int a3)], [.int (M.1 6 ((((a1 * (5 : Int32)) + a2) * (5 : Int32)) + a3).toNatClampNeg)], M)) rfl (fun _ => ?_)
  exact pm_irI rfl rfl
def sTours_treesTo (a2 : Int32) (a3 : Int32) (M : pm_M) : Option (Int64 × pm_M) := pm_loop (fun _ _ _ => none) (fun (g1 : Int32 → Int32 → pm_M → Option (Int64 × pm_M)) x3 x4 M2 => if (M2.1 1 0) ≤ x4 then (pm_loop (fun _ _ => none) (fun (g5 : Int32 → pm_M → Option (Int64 × pm_M)) x7 M6 => if x3 ≤ x7 then (pm_bd (sTours_determinant x3 M6) fun v9 M8 => some (v9, M8)) else (pm_loop (fun _ _ => none) (fun (g10 : Int32 → pm_M → Option (Int64 × pm_M)) x12 M11 => if x3 ≤ x12 then (if pm_in ((x7 * (5 : Int32)) + x7) 25 then (if pm_in x7 5 then (pm_bd (sNet_weightsFrom_1 a2 (M11.1 21 x7.toNatClampNeg) M11) fun v14 M13 => if pm_in ((x7 * (5 : Int32)) + x7) 25 then (pm_lt (pm_sL M13 22 ((x7 * (5 : Int32)) + x7).toNatClampNeg (((M11.2 22 ((x7 * (5 : Int32)) + x7).toNatClampNeg) + v14.toInt64))) fun M15 => pm_lt ((x7 + (1 : Int32))) fun x16 => g5 x16 M15) else none) else none) else none) else (if pm_in x7 5 then (if pm_in x12 5 then (pm_bd (sNet_weightOf_1 a2 (M11.1 21 x7.toNatClampNeg) (M11.1 21 x12.toNatClampNeg) M11) fun v18 M17 => if pm_in ((x7 * (5 : Int32)) + x12) 25 then (pm_lt (pm_sL M17 22 ((x7 * (5 : Int32)) + x12).toNatClampNeg ((-v18).toInt64)) fun M19 => pm_lt ((x12 + (1 : Int32))) fun x20 => g10 x20 M19) else none) else none) else none)) 1000000 (0 : Int32) M6)) 1000000 (0 : Int32) M2) else (if x4 = a3 then (pm_lt ((x4 + (1 : Int32))) fun x21 => g1 x3 x21 M2) else (if pm_in a2 2 then (pm_bd (sTours_hasBit (M2.1 17 a2.toNatClampNeg) x4 M2) fun v23 M22 => if v23 = 0 then (pm_lt ((x4 + (1 : Int32))) fun x24 => g1 x3 x24 M22) else (if pm_in x3 5 then (pm_lt (pm_sI M22 21 x3.toNatClampNeg x4) fun M25 => pm_lt ((x3 + (1 : Int32))) fun x26 => pm_lt ((x4 + (1 : Int32))) fun x27 => g1 x26 x27 M25) else none)) else none))) 1000000 (0 : Int32) (0 : Int32) M
abbrev I_Tours_treesTo (sh : Option (Int64 × pm_M)) (σ : pm_St) : Prop := pm_Im none (pm_Ev 1) pm_T43 (some .long) pm_rL sh σ
set_option maxHeartbeats 4000000 in
set_option maxRecDepth 100000 in
theorem sTours_treesTo_ok (a2 : Int32) (a3 : Int32) (M : pm_M) : ∀ r, sTours_treesTo a2 a3 M = some r → pm_Ev 2 43 [.ref 15, .ref 1, .int a2, .int a3] M (pm_rL r).1 (pm_rL r).2 := by
  refine pm_meth (al := [some (.ref 15), some (.ref 1), some (.int a2), some (.int a3), none, none, none]) rfl rfl rfl rfl rfl ?_
  unfold sTours_treesTo
  show I_Tours_treesTo _ (0, [some (.ref 15), some (.ref 1), some (.int a2), some (.int a3), none, none, none], [], M)
  refine pm_irun 2 (σ' := (3, [some (.ref 15), some (.ref 1), some (.int a2), some (.int a3), some (.int (0 : Int32)), none, none], [], M)) rfl ?_
  refine pm_irun 2 (σ' := (6, [some (.ref 15), some (.ref 1), some (.int a2), some (.int a3), some (.int (0 : Int32)), some (.int (0 : Int32)), none], [], M)) rfl ?_
  refine pm_iloop (fun (g : Int32 → Int32 → pm_M → Option (Int64 × pm_M)) => ∀ (x3 : Int32) (x4 : Int32) (M2 : pm_M), I_Tours_treesTo (g x3 x4 M2) (6, [some (.ref 15), some (.ref 1), some (.int a2), some (.int a3), some (.int x3), some (.int x4), none], [], M2)) (fun _ _ _ => pm_inone) (fun g1 hg1 x3 x4 M2 => ?_) 1000000 _ _ _
  show I_Tours_treesTo _ (6, [some (.ref 15), some (.ref 1), some (.int a2), some (.int a3), some (.int x3), some (.int x4), none], [], M2)
  refine pm_irun 3 (σ' := (12, [some (.ref 15), some (.ref 1), some (.int a2), some (.int a3), some (.int x3), some (.int x4), none], [.int (M2.1 1 0), .int x4], M2)) rfl ?_
  refine pm_iite (σ1 := (53, [some (.ref 15), some (.ref 1), some (.int a2), some (.int a3), some (.int x3), some (.int x4), none], [], M2)) (σ2 := (15, [some (.ref 15), some (.ref 1), some (.int a2), some (.int a3), some (.int x3), some (.int x4), none], [], M2)) rfl (fun _ => ?_) (fun _ => ?_)
  · refine pm_irun 2 (σ' := (56, [some (.ref 15), some (.ref 1), some (.int a2), some (.int a3), some (.int x3), some (.int (0 : Int32)), none], [], M2)) rfl ?_
    refine pm_iwk (al' := [some (.ref 15), some (.ref 1), some (.int a2), none, some (.int x3), some (.int (0 : Int32)), none]) (pm_wkS (pm_wkS (pm_wkS (pm_wkN (pm_wkS (pm_wkS (pm_wkS pm_wk0))))))) ?_
    refine pm_iloop (fun (g : Int32 → pm_M → Option (Int64 × pm_M)) => ∀ (x7 : Int32) (M6 : pm_M), I_Tours_treesTo (g x7 M6) (56, [some (.ref 15), some (.ref 1), some (.int a2), none, some (.int x3), some (.int x7), none], [], M6)) (fun _ _ => pm_inone) (fun g5 hg5 x7 M6 => ?_) 1000000 _ _
    show I_Tours_treesTo _ (56, [some (.ref 15), some (.ref 1), some (.int a2), none, some (.int x3), some (.int x7), none], [], M6)
    refine pm_irun 2 (σ' := (60, [some (.ref 15), some (.ref 1), some (.int a2), none, some (.int x3), some (.int x7), none], [.int x3, .int x7], M6)) rfl ?_
    refine pm_iite (σ1 := (146, [some (.ref 15), some (.ref 1), some (.int a2), none, some (.int x3), some (.int x7), none], [], M6)) (σ2 := (63, [some (.ref 15), some (.ref 1), some (.int a2), none, some (.int x3), some (.int x7), none], [], M6)) rfl (fun _ => ?_) (fun _ => ?_)
    · refine pm_irun 2 (σ' := (149, [some (.ref 15), some (.ref 1), some (.int a2), none, some (.int x3), some (.int x7), none], [.int x3, .ref 15], M6)) rfl ?_
      refine pm_icL (as := [.ref 15, .int x3]) (rest := []) rfl rfl rfl rfl (Nat.le_of_ble_eq_true rfl) rfl (fun r h => pm_Ev_mono (Nat.le_of_ble_eq_true rfl) (sTours_determinant_ok x3 M6 r h)) (fun v9 M8 => ?_)
      show pm_Im _ _ _ _ _ _ (152, [some (.ref 15), some (.ref 1), some (.int a2), none, some (.int x3), some (.int x7), none], [.long v9], M8)
      exact pm_irL rfl rfl
    · refine pm_irun 2 (σ' := (66, [some (.ref 15), some (.ref 1), some (.int a2), none, some (.int x3), some (.int x7), some (.int (0 : Int32))], [], M6)) rfl ?_
      refine pm_iloop (fun (g : Int32 → pm_M → Option (Int64 × pm_M)) => ∀ (x12 : Int32) (M11 : pm_M), I_Tours_treesTo (g x12 M11) (66, [some (.ref 15), some (.ref 1), some (.int a2), none, some (.int x3), some (.int x7), some (.int x12)], [], M11)) (fun _ _ => pm_inone) (fun g10 hg10 x12 M11 => ?_) 1000000 _ _
      show I_Tours_treesTo _ (66, [some (.ref 15), some (.ref 1), some (.int a2), none, some (.int x3), some (.int x7), some (.int x12)], [], M11)
      refine pm_irun 2 (σ' := (70, [some (.ref 15), some (.ref 1), some (.int a2), none, some (.int x3), some (.int x7), some (.int x12)], [.int x3, .int x12], M11)) rfl ?_
      refine pm_iite (σ1 := (112, [some (.ref 15), some (.ref 1), some (.int a2), none, some (.int x3), some (.int x7), some (.int x12)], [], M11)) (σ2 := (73, [some (.ref 15), some (.ref 1), some (.int a2), none, some (.int x3), some (.int x7), some (.int x12)], [], M11)) rfl (fun _ => ?_) (fun _ => ?_)
      · refine pm_irun 8 (σ' := (124, [some (.ref 15), some (.ref 1), some (.int a2), none, some (.int x3), some (.int x7), some (.int x12)], [.int ((x7 * (5 : Int32)) + x7), .ref 22, .int ((x7 * (5 : Int32)) + x7), .ref 22], M11)) rfl ?_
        refine pm_igd (σ1 := (125, [some (.ref 15), some (.ref 1), some (.int a2), none, some (.int x3), some (.int x7), some (.int x12)], [.long (M11.2 22 ((x7 * (5 : Int32)) + x7).toNatClampNeg), .int ((x7 * (5 : Int32)) + x7), .ref 22], M11)) rfl (fun _ => ?_)
        refine pm_irun 5 (σ' := (133, [some (.ref 15), some (.ref 1), some (.int a2), none, some (.int x3), some (.int x7), some (.int x12)], [.int x7, .ref 21, .int a2, .ref 1, .long (M11.2 22 ((x7 * (5 : Int32)) + x7).toNatClampNeg), .int ((x7 * (5 : Int32)) + x7), .ref 22], M11)) rfl ?_
        refine pm_igd (σ1 := (134, [some (.ref 15), some (.ref 1), some (.int a2), none, some (.int x3), some (.int x7), some (.int x12)], [.int (M11.1 21 x7.toNatClampNeg), .int a2, .ref 1, .long (M11.2 22 ((x7 * (5 : Int32)) + x7).toNatClampNeg), .int ((x7 * (5 : Int32)) + x7), .ref 22], M11)) rfl (fun _ => ?_)
        refine pm_icI (as := [.ref 1, .int a2, .int (M11.1 21 x7.toNatClampNeg)]) (rest := [.long (M11.2 22 ((x7 * (5 : Int32)) + x7).toNatClampNeg), .int ((x7 * (5 : Int32)) + x7), .ref 22]) rfl rfl rfl rfl (Nat.le_of_ble_eq_true rfl) rfl (fun r h => pm_Ev_mono (Nat.le_of_ble_eq_true rfl) (sNet_weightsFrom_1_ok a2 (M11.1 21 x7.toNatClampNeg) M11 r h)) (fun v14 M13 => ?_)
        show pm_Im _ _ _ _ _ _ (137, [some (.ref 15), some (.ref 1), some (.int a2), none, some (.int x3), some (.int x7), some (.int x12)], [.int v14, .long (M11.2 22 ((x7 * (5 : Int32)) + x7).toNatClampNeg), .int ((x7 * (5 : Int32)) + x7), .ref 22], M13)
        refine pm_irun 2 (σ' := (139, [some (.ref 15), some (.ref 1), some (.int a2), none, some (.int x3), some (.int x7), some (.int x12)], [.long ((M11.2 22 ((x7 * (5 : Int32)) + x7).toNatClampNeg) + v14.toInt64), .int ((x7 * (5 : Int32)) + x7), .ref 22], M13)) rfl ?_
        refine pm_igd (σ1 := (140, [some (.ref 15), some (.ref 1), some (.int a2), none, some (.int x3), some (.int x7), some (.int x12)], [], (pm_sL M13 22 ((x7 * (5 : Int32)) + x7).toNatClampNeg (((M11.2 22 ((x7 * (5 : Int32)) + x7).toNatClampNeg) + v14.toInt64))))) rfl (fun _ => ?_)
        refine pm_ilt (fun y => (140, [some (.ref 15), some (.ref 1), some (.int a2), none, some (.int x3), some (.int x7), some (.int x12)], [], y)) (fun M15 => ?_)
        refine pm_irun 1 (σ' := (143, [some (.ref 15), some (.ref 1), some (.int a2), none, some (.int x3), some (.int (x7 + (1 : Int32))), some (.int x12)], [], M15)) rfl ?_
        refine pm_ilt (fun y => (143, [some (.ref 15), some (.ref 1), some (.int a2), none, some (.int x3), some (.int y), some (.int x12)], [], M15)) (fun x16 => ?_)
        refine pm_irun 1 (σ' := (56, [some (.ref 15), some (.ref 1), some (.int a2), none, some (.int x3), some (.int x16), some (.int x12)], [], M15)) rfl ?_
        refine pm_iwk (al' := [some (.ref 15), some (.ref 1), some (.int a2), none, some (.int x3), some (.int x16), none]) (pm_wkS (pm_wkS (pm_wkS (pm_wkS (pm_wkS (pm_wkS (pm_wkN pm_wk0))))))) ?_
        exact hg5 _ _
      · refine pm_irun 8 (σ' := (85, [some (.ref 15), some (.ref 1), some (.int a2), none, some (.int x3), some (.int x7), some (.int x12)], [.ref 1, .int ((x7 * (5 : Int32)) + x12), .ref 22], M11)) rfl ?_
        refine pm_irun 4 (σ' := (92, [some (.ref 15), some (.ref 1), some (.int a2), none, some (.int x3), some (.int x7), some (.int x12)], [.int x7, .ref 21, .int a2, .ref 1, .int ((x7 * (5 : Int32)) + x12), .ref 22], M11)) rfl ?_
        refine pm_igd (σ1 := (93, [some (.ref 15), some (.ref 1), some (.int a2), none, some (.int x3), some (.int x7), some (.int x12)], [.int (M11.1 21 x7.toNatClampNeg), .int a2, .ref 1, .int ((x7 * (5 : Int32)) + x12), .ref 22], M11)) rfl (fun _ => ?_)
        refine pm_irun 3 (σ' := (99, [some (.ref 15), some (.ref 1), some (.int a2), none, some (.int x3), some (.int x7), some (.int x12)], [.int x12, .ref 21, .int (M11.1 21 x7.toNatClampNeg), .int a2, .ref 1, .int ((x7 * (5 : Int32)) + x12), .ref 22], M11)) rfl ?_
        refine pm_igd (σ1 := (100, [some (.ref 15), some (.ref 1), some (.int a2), none, some (.int x3), some (.int x7), some (.int x12)], [.int (M11.1 21 x12.toNatClampNeg), .int (M11.1 21 x7.toNatClampNeg), .int a2, .ref 1, .int ((x7 * (5 : Int32)) + x12), .ref 22], M11)) rfl (fun _ => ?_)
        refine pm_icI (as := [.ref 1, .int a2, .int (M11.1 21 x7.toNatClampNeg), .int (M11.1 21 x12.toNatClampNeg)]) (rest := [.int ((x7 * (5 : Int32)) + x12), .ref 22]) rfl rfl rfl rfl (Nat.le_of_ble_eq_true rfl) rfl (fun r h => pm_Ev_mono (Nat.le_of_ble_eq_true rfl) (sNet_weightOf_1_ok a2 (M11.1 21 x7.toNatClampNeg) (M11.1 21 x12.toNatClampNeg) M11 r h)) (fun v18 M17 => ?_)
        show pm_Im _ _ _ _ _ _ (103, [some (.ref 15), some (.ref 1), some (.int a2), none, some (.int x3), some (.int x7), some (.int x12)], [.int v18, .int ((x7 * (5 : Int32)) + x12), .ref 22], M17)
        refine pm_irun 2 (σ' := (105, [some (.ref 15), some (.ref 1), some (.int a2), none, some (.int x3), some (.int x7), some (.int x12)], [.long (-v18).toInt64, .int ((x7 * (5 : Int32)) + x12), .ref 22], M17)) rfl ?_
        refine pm_igd (σ1 := (106, [some (.ref 15), some (.ref 1), some (.int a2), none, some (.int x3), some (.int x7), some (.int x12)], [], (pm_sL M17 22 ((x7 * (5 : Int32)) + x12).toNatClampNeg ((-v18).toInt64)))) rfl (fun _ => ?_)
        refine pm_ilt (fun y => (106, [some (.ref 15), some (.ref 1), some (.int a2), none, some (.int x3), some (.int x7), some (.int x12)], [], y)) (fun M19 => ?_)
        refine pm_irun 1 (σ' := (109, [some (.ref 15), some (.ref 1), some (.int a2), none, some (.int x3), some (.int x7), some (.int (x12 + (1 : Int32)))], [], M19)) rfl ?_
        refine pm_ilt (fun y => (109, [some (.ref 15), some (.ref 1), some (.int a2), none, some (.int x3), some (.int x7), some (.int y)], [], M19)) (fun x20 => ?_)
        refine pm_irun 1 (σ' := (66, [some (.ref 15), some (.ref 1), some (.int a2), none, some (.int x3), some (.int x7), some (.int x20)], [], M19)) rfl ?_
        exact hg10 _ _
  · refine pm_irun 2 (σ' := (18, [some (.ref 15), some (.ref 1), some (.int a2), some (.int a3), some (.int x3), some (.int x4), none], [.int a3, .int x4], M2)) rfl ?_
    refine pm_iite (σ1 := (47, [some (.ref 15), some (.ref 1), some (.int a2), some (.int a3), some (.int x3), some (.int x4), none], [], M2)) (σ2 := (21, [some (.ref 15), some (.ref 1), some (.int a2), some (.int a3), some (.int x3), some (.int x4), none], [], M2)) rfl (fun _ => ?_) (fun _ => ?_)
    · refine pm_irun 1 (σ' := (50, [some (.ref 15), some (.ref 1), some (.int a2), some (.int a3), some (.int x3), some (.int (x4 + (1 : Int32))), none], [], M2)) rfl ?_
      refine pm_ilt (fun y => (50, [some (.ref 15), some (.ref 1), some (.int a2), some (.int a3), some (.int x3), some (.int y), none], [], M2)) (fun x21 => ?_)
      refine pm_irun 1 (σ' := (6, [some (.ref 15), some (.ref 1), some (.int a2), some (.int a3), some (.int x3), some (.int x21), none], [], M2)) rfl ?_
      exact hg1 _ _ _
    · refine pm_irun 3 (σ' := (26, [some (.ref 15), some (.ref 1), some (.int a2), some (.int a3), some (.int x3), some (.int x4), none], [.int a2, .ref 17], M2)) rfl ?_
      refine pm_igd (σ1 := (27, [some (.ref 15), some (.ref 1), some (.int a2), some (.int a3), some (.int x3), some (.int x4), none], [.int (M2.1 17 a2.toNatClampNeg)], M2)) rfl (fun _ => ?_)
      refine pm_irun 1 (σ' := (29, [some (.ref 15), some (.ref 1), some (.int a2), some (.int a3), some (.int x3), some (.int x4), none], [.int x4, .int (M2.1 17 a2.toNatClampNeg)], M2)) rfl ?_
      refine pm_icI (as := [.int (M2.1 17 a2.toNatClampNeg), .int x4]) (rest := []) rfl rfl rfl rfl (Nat.le_of_ble_eq_true rfl) rfl (fun r h => pm_Ev_mono (Nat.le_of_ble_eq_true rfl) (sTours_hasBit_ok (M2.1 17 a2.toNatClampNeg) x4 M2 r h)) (fun v23 M22 => ?_)
      show pm_Im _ _ _ _ _ _ (32, [some (.ref 15), some (.ref 1), some (.int a2), some (.int a3), some (.int x3), some (.int x4), none], [.int v23], M22)
      refine pm_iite (σ1 := (47, [some (.ref 15), some (.ref 1), some (.int a2), some (.int a3), some (.int x3), some (.int x4), none], [], M22)) (σ2 := (35, [some (.ref 15), some (.ref 1), some (.int a2), some (.int a3), some (.int x3), some (.int x4), none], [], M22)) rfl (fun _ => ?_) (fun _ => ?_)
      · refine pm_irun 1 (σ' := (50, [some (.ref 15), some (.ref 1), some (.int a2), some (.int a3), some (.int x3), some (.int (x4 + (1 : Int32))), none], [], M22)) rfl ?_
        refine pm_ilt (fun y => (50, [some (.ref 15), some (.ref 1), some (.int a2), some (.int a3), some (.int x3), some (.int y), none], [], M22)) (fun x24 => ?_)
        refine pm_irun 1 (σ' := (6, [some (.ref 15), some (.ref 1), some (.int a2), some (.int a3), some (.int x3), some (.int x24), none], [], M22)) rfl ?_
        exact hg1 _ _ _
      · refine pm_irun 4 (σ' := (43, [some (.ref 15), some (.ref 1), some (.int a2), some (.int a3), some (.int x3), some (.int x4), none], [.int x4, .int x3, .ref 21], M22)) rfl ?_
        refine pm_igd (σ1 := (44, [some (.ref 15), some (.ref 1), some (.int a2), some (.int a3), some (.int x3), some (.int x4), none], [], (pm_sI M22 21 x3.toNatClampNeg x4))) rfl (fun _ => ?_)
        refine pm_ilt (fun y => (44, [some (.ref 15), some (.ref 1), some (.int a2), some (.int a3), some (.int x3), some (.int x4), none], [], y)) (fun M25 => ?_)
        refine pm_irun 1 (σ' := (47, [some (.ref 15), some (.ref 1), some (.int a2), some (.int a3), some (.int (x3 + (1 : Int32))), some (.int x4), none], [], M25)) rfl ?_
        refine pm_ilt (fun y => (47, [some (.ref 15), some (.ref 1), some (.int a2), some (.int a3), some (.int y), some (.int x4), none], [], M25)) (fun x26 => ?_)
        refine pm_irun 1 (σ' := (50, [some (.ref 15), some (.ref 1), some (.int a2), some (.int a3), some (.int x26), some (.int (x4 + (1 : Int32))), none], [], M25)) rfl ?_
        refine pm_ilt (fun y => (50, [some (.ref 15), some (.ref 1), some (.int a2), some (.int a3), some (.int x26), some (.int y), none], [], M25)) (fun x27 => ?_)
        refine pm_irun 1 (σ' := (6, [some (.ref 15), some (.ref 1), some (.int a2), some (.int a3), some (.int x26), some (.int x27), none], [], M25)) rfl ?_
        exact hg1 _ _ _
def sTours_findReturning (a2 : Int32) (M : pm_M) : Option (Int32 × pm_M) := if pm_in a2 2 then (pm_jn (fun (q3 : Int32) (M2 : pm_M) => pm_loop (fun _ _ _ => none) (fun (g4 : Int32 → Int32 → pm_M → Option (Int32 × pm_M)) x6 x7 M5 => if (M5.1 1 0) ≤ x7 then (some (x6, M5)) else (pm_loop (fun _ _ _ => none) (fun (g8 : Int32 → Int32 → pm_M → Option (Int32 × pm_M)) x10 x11 M9 => if (M9.1 1 0) ≤ x11 then (pm_lt ((x7 + (1 : Int32))) fun x12 => g4 x10 x12 M9) else (pm_bd (sNet_ledTo_1 a2 x11 M9) fun v14 M13 => if (v14 &&& (q3 ||| x10)) = 0 then (pm_lt ((x11 + (1 : Int32))) fun x15 => g8 x10 x15 M13) else (pm_lt ((x10 ||| ((1 : Int32) <<< (x11 &&& 31)))) fun x16 => pm_lt ((x11 + (1 : Int32))) fun x17 => g8 x16 x17 M13))) 1000000 x6 (0 : Int32) M5)) 1000000 (0 : Int32) (0 : Int32) M2) fun (j1 : Int32 → pm_M → Option (Int32 × pm_M)) => if ¬ (M.1 4 a2.toNatClampNeg) = (-1 : Int32) then (if pm_in a2 2 then (j1 (((1 : Int32) <<< ((M.1 4 a2.toNatClampNeg) &&& 31))) M) else none) else (j1 (0 : Int32) M)) else none
abbrev I_Tours_findReturning (sh : Option (Int32 × pm_M)) (σ : pm_St) : Prop := pm_Im none (pm_Ev 1) pm_T42 (some .int) pm_rI sh σ
set_option maxHeartbeats 4000000 in
set_option maxRecDepth 100000 in
theorem sTours_findReturning_ok (a2 : Int32) (M : pm_M) : ∀ r, sTours_findReturning a2 M = some r → pm_Ev 2 42 [.ref 1, .int a2] M (pm_rI r).1 (pm_rI r).2 := by
  refine pm_meth (al := [some (.ref 1), some (.int a2), none, none, none, none]) rfl rfl rfl rfl rfl ?_
  unfold sTours_findReturning
  show I_Tours_findReturning _ (0, [some (.ref 1), some (.int a2), none, none, none, none], [], M)
  refine pm_irun 3 (σ' := (5, [some (.ref 1), some (.int a2), none, none, none, none], [.int a2, .ref 4], M)) rfl ?_
  refine pm_igd (σ1 := (6, [some (.ref 1), some (.int a2), none, none, none, none], [.int (M.1 4 a2.toNatClampNeg)], M)) rfl (fun _ => ?_)
  refine pm_irun 1 (σ' := (7, [some (.ref 1), some (.int a2), none, none, none, none], [.int (-1 : Int32), .int (M.1 4 a2.toNatClampNeg)], M)) rfl ?_
  refine pm_ijn (fun (g : Int32 → pm_M → Option (Int32 × pm_M)) => ∀ (q3 : Int32) (M2 : pm_M), I_Tours_findReturning (g q3 M2) (22, [some (.ref 1), some (.int a2), none, none, none, none], [.int q3], M2)) (fun (q3 : Int32) (M2 : pm_M) => ?_) (fun j1 hj1 => ?_)
  · show I_Tours_findReturning _ (22, [some (.ref 1), some (.int a2), none, none, none, none], [.int q3], M2)
    refine pm_irun 1 (σ' := (23, [some (.ref 1), some (.int a2), some (.int q3), none, none, none], [], M2)) rfl ?_
    refine pm_irun 2 (σ' := (25, [some (.ref 1), some (.int a2), some (.int q3), some (.int (0 : Int32)), none, none], [], M2)) rfl ?_
    refine pm_irun 2 (σ' := (28, [some (.ref 1), some (.int a2), some (.int q3), some (.int (0 : Int32)), some (.int (0 : Int32)), none], [], M2)) rfl ?_
    refine pm_iloop (fun (g : Int32 → Int32 → pm_M → Option (Int32 × pm_M)) => ∀ (x6 : Int32) (x7 : Int32) (M5 : pm_M), I_Tours_findReturning (g x6 x7 M5) (28, [some (.ref 1), some (.int a2), some (.int q3), some (.int x6), some (.int x7), none], [], M5)) (fun _ _ _ => pm_inone) (fun g4 hg4 x6 x7 M5 => ?_) 1000000 _ _ _
    show I_Tours_findReturning _ (28, [some (.ref 1), some (.int a2), some (.int q3), some (.int x6), some (.int x7), none], [], M5)
    refine pm_irun 3 (σ' := (34, [some (.ref 1), some (.int a2), some (.int q3), some (.int x6), some (.int x7), none], [.int (M5.1 1 0), .int x7], M5)) rfl ?_
    refine pm_iite (σ1 := (82, [some (.ref 1), some (.int a2), some (.int q3), some (.int x6), some (.int x7), none], [], M5)) (σ2 := (37, [some (.ref 1), some (.int a2), some (.int q3), some (.int x6), some (.int x7), none], [], M5)) rfl (fun _ => ?_) (fun _ => ?_)
    · refine pm_irun 1 (σ' := (83, [some (.ref 1), some (.int a2), some (.int q3), some (.int x6), some (.int x7), none], [.int x6], M5)) rfl ?_
      exact pm_irI rfl rfl
    · refine pm_irun 2 (σ' := (40, [some (.ref 1), some (.int a2), some (.int q3), some (.int x6), some (.int x7), some (.int (0 : Int32))], [], M5)) rfl ?_
      refine pm_iloop (fun (g : Int32 → Int32 → pm_M → Option (Int32 × pm_M)) => ∀ (x10 : Int32) (x11 : Int32) (M9 : pm_M), I_Tours_findReturning (g x10 x11 M9) (40, [some (.ref 1), some (.int a2), some (.int q3), some (.int x10), some (.int x7), some (.int x11)], [], M9)) (fun _ _ _ => pm_inone) (fun g8 hg8 x10 x11 M9 => ?_) 1000000 _ _ _
      show I_Tours_findReturning _ (40, [some (.ref 1), some (.int a2), some (.int q3), some (.int x10), some (.int x7), some (.int x11)], [], M9)
      refine pm_irun 3 (σ' := (46, [some (.ref 1), some (.int a2), some (.int q3), some (.int x10), some (.int x7), some (.int x11)], [.int (M9.1 1 0), .int x11], M9)) rfl ?_
      refine pm_iite (σ1 := (76, [some (.ref 1), some (.int a2), some (.int q3), some (.int x10), some (.int x7), some (.int x11)], [], M9)) (σ2 := (49, [some (.ref 1), some (.int a2), some (.int q3), some (.int x10), some (.int x7), some (.int x11)], [], M9)) rfl (fun _ => ?_) (fun _ => ?_)
      · refine pm_irun 1 (σ' := (79, [some (.ref 1), some (.int a2), some (.int q3), some (.int x10), some (.int (x7 + (1 : Int32))), some (.int x11)], [], M9)) rfl ?_
        refine pm_ilt (fun y => (79, [some (.ref 1), some (.int a2), some (.int q3), some (.int x10), some (.int y), some (.int x11)], [], M9)) (fun x12 => ?_)
        refine pm_irun 1 (σ' := (28, [some (.ref 1), some (.int a2), some (.int q3), some (.int x10), some (.int x12), some (.int x11)], [], M9)) rfl ?_
        refine pm_iwk (al' := [some (.ref 1), some (.int a2), some (.int q3), some (.int x10), some (.int x12), none]) (pm_wkS (pm_wkS (pm_wkS (pm_wkS (pm_wkS (pm_wkN pm_wk0)))))) ?_
        exact hg4 _ _ _
      · refine pm_irun 3 (σ' := (53, [some (.ref 1), some (.int a2), some (.int q3), some (.int x10), some (.int x7), some (.int x11)], [.int x11, .int a2, .ref 1], M9)) rfl ?_
        refine pm_icI (as := [.ref 1, .int a2, .int x11]) (rest := []) rfl rfl rfl rfl (Nat.le_of_ble_eq_true rfl) rfl (fun r h => pm_Ev_mono (Nat.le_of_ble_eq_true rfl) (sNet_ledTo_1_ok a2 x11 M9 r h)) (fun v14 M13 => ?_)
        show pm_Im _ _ _ _ _ _ (56, [some (.ref 1), some (.int a2), some (.int q3), some (.int x10), some (.int x7), some (.int x11)], [.int v14], M13)
        refine pm_irun 4 (σ' := (60, [some (.ref 1), some (.int a2), some (.int q3), some (.int x10), some (.int x7), some (.int x11)], [.int (v14 &&& (q3 ||| x10))], M13)) rfl ?_
        refine pm_iite (σ1 := (70, [some (.ref 1), some (.int a2), some (.int q3), some (.int x10), some (.int x7), some (.int x11)], [], M13)) (σ2 := (63, [some (.ref 1), some (.int a2), some (.int q3), some (.int x10), some (.int x7), some (.int x11)], [], M13)) rfl (fun _ => ?_) (fun _ => ?_)
        · refine pm_irun 1 (σ' := (73, [some (.ref 1), some (.int a2), some (.int q3), some (.int x10), some (.int x7), some (.int (x11 + (1 : Int32)))], [], M13)) rfl ?_
          refine pm_ilt (fun y => (73, [some (.ref 1), some (.int a2), some (.int q3), some (.int x10), some (.int x7), some (.int y)], [], M13)) (fun x15 => ?_)
          refine pm_irun 1 (σ' := (40, [some (.ref 1), some (.int a2), some (.int q3), some (.int x10), some (.int x7), some (.int x15)], [], M13)) rfl ?_
          exact hg8 _ _ _
        · refine pm_irun 6 (σ' := (70, [some (.ref 1), some (.int a2), some (.int q3), some (.int (x10 ||| ((1 : Int32) <<< (x11 &&& 31)))), some (.int x7), some (.int x11)], [], M13)) rfl ?_
          refine pm_ilt (fun y => (70, [some (.ref 1), some (.int a2), some (.int q3), some (.int y), some (.int x7), some (.int x11)], [], M13)) (fun x16 => ?_)
          refine pm_irun 1 (σ' := (73, [some (.ref 1), some (.int a2), some (.int q3), some (.int x16), some (.int x7), some (.int (x11 + (1 : Int32)))], [], M13)) rfl ?_
          refine pm_ilt (fun y => (73, [some (.ref 1), some (.int a2), some (.int q3), some (.int x16), some (.int x7), some (.int y)], [], M13)) (fun x17 => ?_)
          refine pm_irun 1 (σ' := (40, [some (.ref 1), some (.int a2), some (.int q3), some (.int x16), some (.int x7), some (.int x17)], [], M13)) rfl ?_
          exact hg8 _ _ _
  refine pm_iite (σ1 := (14, [some (.ref 1), some (.int a2), none, none, none, none], [], M)) (σ2 := (10, [some (.ref 1), some (.int a2), none, none, none, none], [], M)) rfl (fun _ => ?_) (fun _ => ?_)
  · refine pm_irun 4 (σ' := (20, [some (.ref 1), some (.int a2), none, none, none, none], [.int a2, .ref 4, .int (1 : Int32)], M)) rfl ?_
    refine pm_igd (σ1 := (21, [some (.ref 1), some (.int a2), none, none, none, none], [.int (M.1 4 a2.toNatClampNeg), .int (1 : Int32)], M)) rfl (fun _ => ?_)
    refine pm_irun 1 (σ' := (22, [some (.ref 1), some (.int a2), none, none, none, none], [.int ((1 : Int32) <<< ((M.1 4 a2.toNatClampNeg) &&& 31))], M)) rfl ?_
    exact hj1 _ _
  · refine pm_irun 2 (σ' := (22, [some (.ref 1), some (.int a2), none, none, none, none], [.int (0 : Int32)], M)) rfl ?_
    exact hj1 _ _
def sTours_reckon (a2 : Int32) (M : pm_M) : Option (pm_M) := pm_lt ((a2 * (5 : Int32))) fun x1 => pm_bd (sTours_findReached a2 M) fun v3 M2 => if pm_in a2 2 then (pm_lt (pm_sI M2 17 a2.toNatClampNeg v3) fun M4 => if pm_in a2 2 then (pm_jn (fun (q7 : Int32) (M6 : pm_M) => if pm_in a2 2 ∧ (q7 = 0 ∨ q7 = 1) then (pm_lt (pm_sI M6 18 a2.toNatClampNeg q7) fun M8 => pm_loop (fun _ _ _ => none) (fun (g9 : Int64 → Int32 → pm_M → Option (pm_M)) x11 x12 M10 => if (M10.1 1 0) ≤ x12 then (pm_loop (fun _ _ _ => none) (fun (g13 : Int64 → Int32 → pm_M → Option (pm_M)) x15 x16 M14 => if (M14.1 1 0) ≤ x16 then (if pm_in a2 2 then (pm_jn (fun (q19 : Int32) (M18 : pm_M) => if pm_in a2 2 ∧ (q19 = 0 ∨ q19 = 1) then (pm_lt (pm_sI M18 16 a2.toNatClampNeg q19) fun M20 => some M20) else none) fun (j17 : Int32 → pm_M → Option (pm_M)) => pm_jn (fun (M22 : pm_M) => j17 (1 : Int32) M22) fun (j21 : pm_M → Option (pm_M)) => if (M14.1 5 a2.toNatClampNeg) = 0 then (j21 M14) else (if pm_in a2 2 then (if (M14.1 18 a2.toNatClampNeg) = 0 then (j17 (0 : Int32) M14) else (if 0 < (lg_cmp x15 (20 : Int64)) then (j17 (0 : Int32) M14) else (j21 M14))) else none)) else none) else (pm_jn (fun (M24 : pm_M) => if pm_in (x1 + x16) 10 then (pm_bd (sNet_timeOf_1 a2 x16 M24) fun v26 M25 => if pm_in (x1 + x16) 10 then (pm_lt (pm_sL M25 20 (x1 + x16).toNatClampNeg (((M24.2 19 (x1 + x16).toNatClampNeg) * v26.toInt64))) fun M27 => if pm_in (x1 + x16) 10 then (pm_lt ((if (M27.2 20 (x1 + x16).toNatClampNeg) < x15 then x15 else (M27.2 20 (x1 + x16).toNatClampNeg))) fun x28 => pm_lt ((x16 + (1 : Int32))) fun x29 => g13 x28 x29 M27) else none) else none) else none) fun (j23 : pm_M → Option (pm_M)) => if (lg_cmp x11 (0 : Int64)) ≤ 0 then (j23 M14) else (if pm_in (x1 + x16) 10 then (if ¬ x11 = 0 then (if pm_in (x1 + x16) 10 then (pm_lt (pm_sL M14 19 (x1 + x16).toNatClampNeg (((M14.2 19 (x1 + x16).toNatClampNeg) / x11))) fun M30 => j23 M30) else none) else none) else none))) 1000000 (0 : Int64) (0 : Int32) M10) else (if pm_in a2 2 then (pm_jn (fun (q33 : Int32) (M32 : pm_M) => pm_jn (fun (q36 : Int64) (M35 : pm_M) => if pm_in (x1 + x12) 10 then (pm_lt (pm_sL M35 19 (x1 + x12).toNatClampNeg q36) fun M37 => if pm_in (x1 + x12) 10 then (pm_bd (sC_commonDivisor x11 (M37.2 19 (x1 + x12).toNatClampNeg) M37) fun v39 M38 => pm_lt ((x12 + (1 : Int32))) fun x40 => g9 v39 x40 M38) else none) else none) fun (j34 : Int64 → pm_M → Option (pm_M)) => if q33 = 0 then (j34 (0 : Int64) M32) else (pm_bd (sTours_treesTo a2 x12 M32) fun v42 M41 => pm_bd (sNet_weightsFrom_1 a2 x12 M41) fun v44 M43 => j34 ((v42 * v44.toInt64)) M43)) fun (j31 : Int32 → pm_M → Option (pm_M)) => pm_jn (fun (M46 : pm_M) => j31 (0 : Int32) M46) fun (j45 : pm_M → Option (pm_M)) => if (M10.1 18 a2.toNatClampNeg) = 0 then (j45 M10) else (if pm_in a2 2 then (pm_bd (sTours_hasBit (M10.1 17 a2.toNatClampNeg) x12 M10) fun v48 M47 => if v48 = 0 then (j45 M47) else (j31 (1 : Int32) M47)) else none)) else none)) 1000000 (0 : Int64) (0 : Int32) M8) else none) fun (j5 : Int32 → pm_M → Option (pm_M)) => pm_jn (fun (M50 : pm_M) => j5 (0 : Int32) M50) fun (j49 : pm_M → Option (pm_M)) => if (M4.1 4 a2.toNatClampNeg) = (-1 : Int32) then (j49 M4) else (if pm_in a2 2 then (pm_bd (sTours_findReturning a2 M4) fun v52 M51 => if ¬ ((M4.1 17 a2.toNatClampNeg) &&& (v52 ^^^ (-1 : Int32))) = 0 then (j49 M51) else (j5 (1 : Int32) M51)) else none)) else none) else none
abbrev I_Tours_reckon (sh : Option (pm_M)) (σ : pm_St) : Prop := pm_Im none (pm_Ev 2) pm_T38 none pm_rV sh σ
set_option maxHeartbeats 4000000 in
set_option maxRecDepth 100000 in
theorem sTours_reckon_ok (a2 : Int32) (M : pm_M) : ∀ r, sTours_reckon a2 M = some r → pm_Ev 3 38 [.ref 15, .ref 1, .int a2] M (pm_rV r).1 (pm_rV r).2 := by
  refine pm_meth (al := [some (.ref 15), some (.ref 1), some (.int a2), none, none, none, none, none, none]) rfl rfl rfl rfl rfl ?_
  unfold sTours_reckon
  show I_Tours_reckon _ (0, [some (.ref 15), some (.ref 1), some (.int a2), none, none, none, none, none, none], [], M)
  refine pm_irun 4 (σ' := (4, [some (.ref 15), some (.ref 1), some (.int a2), some (.int (a2 * (5 : Int32))), none, none, none, none, none], [], M)) rfl ?_
  refine pm_ilt (fun y => (4, [some (.ref 15), some (.ref 1), some (.int a2), some (.int y), none, none, none, none, none], [], M)) (fun x1 => ?_)
  refine pm_irun 5 (σ' := (11, [some (.ref 15), some (.ref 1), some (.int a2), some (.int x1), none, none, none, none, none], [.int a2, .ref 1, .int a2, .ref 17], M)) rfl ?_
  refine pm_icI (as := [.ref 1, .int a2]) (rest := [.int a2, .ref 17]) rfl rfl rfl rfl (Nat.le_of_ble_eq_true rfl) rfl (fun r h => pm_Ev_mono (Nat.le_of_ble_eq_true rfl) (sTours_findReached_ok a2 M r h)) (fun v3 M2 => ?_)
  show pm_Im _ _ _ _ _ _ (14, [some (.ref 15), some (.ref 1), some (.int a2), some (.int x1), none, none, none, none, none], [.int v3, .int a2, .ref 17], M2)
  refine pm_igd (σ1 := (15, [some (.ref 15), some (.ref 1), some (.int a2), some (.int x1), none, none, none, none, none], [], (pm_sI M2 17 a2.toNatClampNeg v3))) rfl (fun _ => ?_)
  refine pm_ilt (fun y => (15, [some (.ref 15), some (.ref 1), some (.int a2), some (.int x1), none, none, none, none, none], [], y)) (fun M4 => ?_)
  refine pm_irun 6 (σ' := (25, [some (.ref 15), some (.ref 1), some (.int a2), some (.int x1), none, none, none, none, none], [.int a2, .ref 4, .int a2, .ref 18], M4)) rfl ?_
  refine pm_igd (σ1 := (26, [some (.ref 15), some (.ref 1), some (.int a2), some (.int x1), none, none, none, none, none], [.int (M4.1 4 a2.toNatClampNeg), .int a2, .ref 18], M4)) rfl (fun _ => ?_)
  refine pm_irun 1 (σ' := (27, [some (.ref 15), some (.ref 1), some (.int a2), some (.int x1), none, none, none, none, none], [.int (-1 : Int32), .int (M4.1 4 a2.toNatClampNeg), .int a2, .ref 18], M4)) rfl ?_
  refine pm_ijn (fun (g : Int32 → pm_M → Option (pm_M)) => ∀ (q7 : Int32) (M6 : pm_M), I_Tours_reckon (g q7 M6) (52, [some (.ref 15), some (.ref 1), some (.int a2), some (.int x1), none, none, none, none, none], [.int q7, .int a2, .ref 18], M6)) (fun (q7 : Int32) (M6 : pm_M) => ?_) (fun j5 hj5 => ?_)
  · show I_Tours_reckon _ (52, [some (.ref 15), some (.ref 1), some (.int a2), some (.int x1), none, none, none, none, none], [.int q7, .int a2, .ref 18], M6)
    refine pm_igd (σ1 := (53, [some (.ref 15), some (.ref 1), some (.int a2), some (.int x1), none, none, none, none, none], [], (pm_sI M6 18 a2.toNatClampNeg q7))) rfl (fun _ => ?_)
    refine pm_ilt (fun y => (53, [some (.ref 15), some (.ref 1), some (.int a2), some (.int x1), none, none, none, none, none], [], y)) (fun M8 => ?_)
    refine pm_irun 2 (σ' := (56, [some (.ref 15), some (.ref 1), some (.int a2), some (.int x1), some (.long (0 : Int64)), none, none, none, none], [], M8)) rfl ?_
    refine pm_irun 2 (σ' := (59, [some (.ref 15), some (.ref 1), some (.int a2), some (.int x1), some (.long (0 : Int64)), none, some (.int (0 : Int32)), none, none], [], M8)) rfl ?_
    refine pm_iloop (fun (g : Int64 → Int32 → pm_M → Option (pm_M)) => ∀ (x11 : Int64) (x12 : Int32) (M10 : pm_M), I_Tours_reckon (g x11 x12 M10) (59, [some (.ref 15), some (.ref 1), some (.int a2), some (.int x1), some (.long x11), none, some (.int x12), none, none], [], M10)) (fun _ _ _ => pm_inone) (fun g9 hg9 x11 x12 M10 => ?_) 1000000 _ _ _
    show I_Tours_reckon _ (59, [some (.ref 15), some (.ref 1), some (.int a2), some (.int x1), some (.long x11), none, some (.int x12), none, none], [], M10)
    refine pm_irun 3 (σ' := (65, [some (.ref 15), some (.ref 1), some (.int a2), some (.int x1), some (.long x11), none, some (.int x12), none, none], [.int (M10.1 1 0), .int x12], M10)) rfl ?_
    refine pm_iite (σ1 := (155, [some (.ref 15), some (.ref 1), some (.int a2), some (.int x1), some (.long x11), none, some (.int x12), none, none], [], M10)) (σ2 := (68, [some (.ref 15), some (.ref 1), some (.int a2), some (.int x1), some (.long x11), none, some (.int x12), none, none], [], M10)) rfl (fun _ => ?_) (fun _ => ?_)
    · refine pm_irun 2 (σ' := (158, [some (.ref 15), some (.ref 1), some (.int a2), some (.int x1), some (.long x11), none, some (.long (0 : Int64)), none, none], [], M10)) rfl ?_
      refine pm_irun 2 (σ' := (161, [some (.ref 15), some (.ref 1), some (.int a2), some (.int x1), some (.long x11), none, some (.long (0 : Int64)), none, some (.int (0 : Int32))], [], M10)) rfl ?_
      refine pm_iloop (fun (g : Int64 → Int32 → pm_M → Option (pm_M)) => ∀ (x15 : Int64) (x16 : Int32) (M14 : pm_M), I_Tours_reckon (g x15 x16 M14) (161, [some (.ref 15), some (.ref 1), some (.int a2), some (.int x1), some (.long x11), none, some (.long x15), none, some (.int x16)], [], M14)) (fun _ _ _ => pm_inone) (fun g13 hg13 x15 x16 M14 => ?_) 1000000 _ _ _
      show I_Tours_reckon _ (161, [some (.ref 15), some (.ref 1), some (.int a2), some (.int x1), some (.long x11), none, some (.long x15), none, some (.int x16)], [], M14)
      refine pm_irun 3 (σ' := (167, [some (.ref 15), some (.ref 1), some (.int a2), some (.int x1), some (.long x11), none, some (.long x15), none, some (.int x16)], [.int (M14.1 1 0), .int x16], M14)) rfl ?_
      refine pm_iite (σ1 := (240, [some (.ref 15), some (.ref 1), some (.int a2), some (.int x1), some (.long x11), none, some (.long x15), none, some (.int x16)], [], M14)) (σ2 := (170, [some (.ref 15), some (.ref 1), some (.int a2), some (.int x1), some (.long x11), none, some (.long x15), none, some (.int x16)], [], M14)) rfl (fun _ => ?_) (fun _ => ?_)
      · refine pm_irun 6 (σ' := (250, [some (.ref 15), some (.ref 1), some (.int a2), some (.int x1), some (.long x11), none, some (.long x15), none, some (.int x16)], [.int a2, .ref 5, .int a2, .ref 16], M14)) rfl ?_
        refine pm_igd (σ1 := (251, [some (.ref 15), some (.ref 1), some (.int a2), some (.int x1), some (.long x11), none, some (.long x15), none, some (.int x16)], [.int (M14.1 5 a2.toNatClampNeg), .int a2, .ref 16], M14)) rfl (fun _ => ?_)
        refine pm_ijn (fun (g : Int32 → pm_M → Option (pm_M)) => ∀ (q19 : Int32) (M18 : pm_M), I_Tours_reckon (g q19 M18) (277, [none, none, none, none, none, none, none, none, none], [.int q19, .int a2, .ref 16], M18)) (fun (q19 : Int32) (M18 : pm_M) => ?_) (fun j17 hj17 => ?_)
        · show I_Tours_reckon _ (277, [none, none, none, none, none, none, none, none, none], [.int q19, .int a2, .ref 16], M18)
          refine pm_igd (σ1 := (278, [none, none, none, none, none, none, none, none, none], [], (pm_sI M18 16 a2.toNatClampNeg q19))) rfl (fun _ => ?_)
          refine pm_ilt (fun y => (278, [none, none, none, none, none, none, none, none, none], [], y)) (fun M20 => ?_)
          exact pm_irV rfl rfl
        refine pm_ijn (fun (g : pm_M → Option (pm_M)) => ∀ (M22 : pm_M), I_Tours_reckon (g M22) (272, [none, none, none, none, none, none, none, none, none], [.int a2, .ref 16], M22)) (fun (M22 : pm_M) => ?_) (fun j21 hj21 => ?_)
        · show I_Tours_reckon _ (272, [none, none, none, none, none, none, none, none, none], [.int a2, .ref 16], M22)
          refine pm_irun 2 (σ' := (277, [none, none, none, none, none, none, none, none, none], [.int (1 : Int32), .int a2, .ref 16], M22)) rfl ?_
          exact hj17 _ _
        refine pm_iite (σ1 := (272, [some (.ref 15), some (.ref 1), some (.int a2), some (.int x1), some (.long x11), none, some (.long x15), none, some (.int x16)], [.int a2, .ref 16], M14)) (σ2 := (254, [some (.ref 15), some (.ref 1), some (.int a2), some (.int x1), some (.long x11), none, some (.long x15), none, some (.int x16)], [.int a2, .ref 16], M14)) rfl (fun _ => ?_) (fun _ => ?_)
        · refine pm_iwk (al' := [none, none, none, none, none, none, none, none, none]) (pm_wkN (pm_wkN (pm_wkN (pm_wkN (pm_wkN (pm_wkS (pm_wkN (pm_wkS (pm_wkN pm_wk0))))))))) ?_
          exact hj21 _
        · refine pm_irun 3 (σ' := (259, [some (.ref 15), some (.ref 1), some (.int a2), some (.int x1), some (.long x11), none, some (.long x15), none, some (.int x16)], [.int a2, .ref 18, .int a2, .ref 16], M14)) rfl ?_
          refine pm_igd (σ1 := (260, [some (.ref 15), some (.ref 1), some (.int a2), some (.int x1), some (.long x11), none, some (.long x15), none, some (.int x16)], [.int (M14.1 18 a2.toNatClampNeg), .int a2, .ref 16], M14)) rfl (fun _ => ?_)
          refine pm_iite (σ1 := (276, [some (.ref 15), some (.ref 1), some (.int a2), some (.int x1), some (.long x11), none, some (.long x15), none, some (.int x16)], [.int a2, .ref 16], M14)) (σ2 := (263, [some (.ref 15), some (.ref 1), some (.int a2), some (.int x1), some (.long x11), none, some (.long x15), none, some (.int x16)], [.int a2, .ref 16], M14)) rfl (fun _ => ?_) (fun _ => ?_)
          · refine pm_irun 1 (σ' := (277, [some (.ref 15), some (.ref 1), some (.int a2), some (.int x1), some (.long x11), none, some (.long x15), none, some (.int x16)], [.int (0 : Int32), .int a2, .ref 16], M14)) rfl ?_
            refine pm_iwk (al' := [none, none, none, none, none, none, none, none, none]) (pm_wkN (pm_wkN (pm_wkN (pm_wkN (pm_wkN (pm_wkS (pm_wkN (pm_wkS (pm_wkN pm_wk0))))))))) ?_
            exact hj17 _ _
          · refine pm_irun 3 (σ' := (269, [some (.ref 15), some (.ref 1), some (.int a2), some (.int x1), some (.long x11), none, some (.long x15), none, some (.int x16)], [.int (lg_cmp x15 (20 : Int64)), .int a2, .ref 16], M14)) rfl ?_
            refine pm_iite (σ1 := (276, [some (.ref 15), some (.ref 1), some (.int a2), some (.int x1), some (.long x11), none, some (.long x15), none, some (.int x16)], [.int a2, .ref 16], M14)) (σ2 := (272, [some (.ref 15), some (.ref 1), some (.int a2), some (.int x1), some (.long x11), none, some (.long x15), none, some (.int x16)], [.int a2, .ref 16], M14)) rfl (fun _ => ?_) (fun _ => ?_)
            · refine pm_irun 1 (σ' := (277, [some (.ref 15), some (.ref 1), some (.int a2), some (.int x1), some (.long x11), none, some (.long x15), none, some (.int x16)], [.int (0 : Int32), .int a2, .ref 16], M14)) rfl ?_
              refine pm_iwk (al' := [none, none, none, none, none, none, none, none, none]) (pm_wkN (pm_wkN (pm_wkN (pm_wkN (pm_wkN (pm_wkS (pm_wkN (pm_wkS (pm_wkN pm_wk0))))))))) ?_
              exact hj17 _ _
            · refine pm_iwk (al' := [none, none, none, none, none, none, none, none, none]) (pm_wkN (pm_wkN (pm_wkN (pm_wkN (pm_wkN (pm_wkS (pm_wkN (pm_wkS (pm_wkN pm_wk0))))))))) ?_
              exact hj21 _
      · refine pm_irun 3 (σ' := (174, [some (.ref 15), some (.ref 1), some (.int a2), some (.int x1), some (.long x11), none, some (.long x15), none, some (.int x16)], [.int (lg_cmp x11 (0 : Int64))], M14)) rfl ?_
        refine pm_ijn (fun (g : pm_M → Option (pm_M)) => ∀ (M24 : pm_M), I_Tours_reckon (g M24) (191, [some (.ref 15), some (.ref 1), some (.int a2), some (.int x1), some (.long x11), none, some (.long x15), none, some (.int x16)], [], M24)) (fun (M24 : pm_M) => ?_) (fun j23 hj23 => ?_)
        · show I_Tours_reckon _ (191, [some (.ref 15), some (.ref 1), some (.int a2), some (.int x1), some (.long x11), none, some (.long x15), none, some (.int x16)], [], M24)
          refine pm_irun 8 (σ' := (204, [some (.ref 15), some (.ref 1), some (.int a2), some (.int x1), some (.long x11), none, some (.long x15), none, some (.int x16)], [.int x1, .ref 19, .int (x1 + x16), .ref 20], M24)) rfl ?_
          refine pm_irun 2 (σ' := (207, [some (.ref 15), some (.ref 1), some (.int a2), some (.int x1), some (.long x11), none, some (.long x15), none, some (.int x16)], [.int (x1 + x16), .ref 19, .int (x1 + x16), .ref 20], M24)) rfl ?_
          refine pm_igd (σ1 := (208, [some (.ref 15), some (.ref 1), some (.int a2), some (.int x1), some (.long x11), none, some (.long x15), none, some (.int x16)], [.long (M24.2 19 (x1 + x16).toNatClampNeg), .int (x1 + x16), .ref 20], M24)) rfl (fun _ => ?_)
          refine pm_irun 3 (σ' := (212, [some (.ref 15), some (.ref 1), some (.int a2), some (.int x1), some (.long x11), none, some (.long x15), none, some (.int x16)], [.int x16, .int a2, .ref 1, .long (M24.2 19 (x1 + x16).toNatClampNeg), .int (x1 + x16), .ref 20], M24)) rfl ?_
          refine pm_icI (as := [.ref 1, .int a2, .int x16]) (rest := [.long (M24.2 19 (x1 + x16).toNatClampNeg), .int (x1 + x16), .ref 20]) rfl rfl rfl rfl (Nat.le_of_ble_eq_true rfl) rfl (fun r h => pm_Ev_mono (Nat.le_of_ble_eq_true rfl) (sNet_timeOf_1_ok a2 x16 M24 r h)) (fun v26 M25 => ?_)
          show pm_Im _ _ _ _ _ _ (215, [some (.ref 15), some (.ref 1), some (.int a2), some (.int x1), some (.long x11), none, some (.long x15), none, some (.int x16)], [.int v26, .long (M24.2 19 (x1 + x16).toNatClampNeg), .int (x1 + x16), .ref 20], M25)
          refine pm_irun 2 (σ' := (217, [some (.ref 15), some (.ref 1), some (.int a2), some (.int x1), some (.long x11), none, some (.long x15), none, some (.int x16)], [.long ((M24.2 19 (x1 + x16).toNatClampNeg) * v26.toInt64), .int (x1 + x16), .ref 20], M25)) rfl ?_
          refine pm_igd (σ1 := (218, [some (.ref 15), some (.ref 1), some (.int a2), some (.int x1), some (.long x11), none, some (.long x15), none, some (.int x16)], [], (pm_sL M25 20 (x1 + x16).toNatClampNeg (((M24.2 19 (x1 + x16).toNatClampNeg) * v26.toInt64))))) rfl (fun _ => ?_)
          refine pm_ilt (fun y => (218, [some (.ref 15), some (.ref 1), some (.int a2), some (.int x1), some (.long x11), none, some (.long x15), none, some (.int x16)], [], y)) (fun M27 => ?_)
          refine pm_irun 6 (σ' := (228, [some (.ref 15), some (.ref 1), some (.int a2), some (.int x1), some (.long x11), none, some (.long x15), none, some (.int x16)], [.int (x1 + x16), .ref 20, .long x15], M27)) rfl ?_
          refine pm_igd (σ1 := (229, [some (.ref 15), some (.ref 1), some (.int a2), some (.int x1), some (.long x11), none, some (.long x15), none, some (.int x16)], [.long (M27.2 20 (x1 + x16).toNatClampNeg), .long x15], M27)) rfl (fun _ => ?_)
          refine pm_igt (c := (([] : List Value).map fun v => v.category).sum ≤ 8) (σ1 := (232, [some (.ref 15), some (.ref 1), some (.int a2), some (.int x1), some (.long x11), none, some (.long x15), none, some (.int x16)], [.long (if (M27.2 20 (x1 + x16).toNatClampNeg) < x15 then x15 else (M27.2 20 (x1 + x16).toNatClampNeg))], M27)) (Nat.le_of_ble_eq_true rfl) rfl ?_
          refine pm_irun 1 (σ' := (234, [some (.ref 15), some (.ref 1), some (.int a2), some (.int x1), some (.long x11), none, some (.long (if (M27.2 20 (x1 + x16).toNatClampNeg) < x15 then x15 else (M27.2 20 (x1 + x16).toNatClampNeg))), none, some (.int x16)], [], M27)) rfl ?_
          refine pm_ilt (fun y => (234, [some (.ref 15), some (.ref 1), some (.int a2), some (.int x1), some (.long x11), none, some (.long y), none, some (.int x16)], [], M27)) (fun x28 => ?_)
          refine pm_irun 1 (σ' := (237, [some (.ref 15), some (.ref 1), some (.int a2), some (.int x1), some (.long x11), none, some (.long x28), none, some (.int (x16 + (1 : Int32)))], [], M27)) rfl ?_
          refine pm_ilt (fun y => (237, [some (.ref 15), some (.ref 1), some (.int a2), some (.int x1), some (.long x11), none, some (.long x28), none, some (.int y)], [], M27)) (fun x29 => ?_)
          refine pm_irun 1 (σ' := (161, [some (.ref 15), some (.ref 1), some (.int a2), some (.int x1), some (.long x11), none, some (.long x28), none, some (.int x29)], [], M27)) rfl ?_
          exact hg13 _ _ _
        refine pm_iite (σ1 := (191, [some (.ref 15), some (.ref 1), some (.int a2), some (.int x1), some (.long x11), none, some (.long x15), none, some (.int x16)], [], M14)) (σ2 := (177, [some (.ref 15), some (.ref 1), some (.int a2), some (.int x1), some (.long x11), none, some (.long x15), none, some (.int x16)], [], M14)) rfl (fun _ => ?_) (fun _ => ?_)
        · exact hj23 _
        · refine pm_irun 6 (σ' := (186, [some (.ref 15), some (.ref 1), some (.int a2), some (.int x1), some (.long x11), none, some (.long x15), none, some (.int x16)], [.int (x1 + x16), .ref 19, .int (x1 + x16), .ref 19], M14)) rfl ?_
          refine pm_igd (σ1 := (187, [some (.ref 15), some (.ref 1), some (.int a2), some (.int x1), some (.long x11), none, some (.long x15), none, some (.int x16)], [.long (M14.2 19 (x1 + x16).toNatClampNeg), .int (x1 + x16), .ref 19], M14)) rfl (fun _ => ?_)
          refine pm_irun 1 (σ' := (189, [some (.ref 15), some (.ref 1), some (.int a2), some (.int x1), some (.long x11), none, some (.long x15), none, some (.int x16)], [.long x11, .long (M14.2 19 (x1 + x16).toNatClampNeg), .int (x1 + x16), .ref 19], M14)) rfl ?_
          refine pm_igd (σ1 := (190, [some (.ref 15), some (.ref 1), some (.int a2), some (.int x1), some (.long x11), none, some (.long x15), none, some (.int x16)], [.long ((M14.2 19 (x1 + x16).toNatClampNeg) / x11), .int (x1 + x16), .ref 19], M14)) rfl (fun _ => ?_)
          refine pm_igd (σ1 := (191, [some (.ref 15), some (.ref 1), some (.int a2), some (.int x1), some (.long x11), none, some (.long x15), none, some (.int x16)], [], (pm_sL M14 19 (x1 + x16).toNatClampNeg (((M14.2 19 (x1 + x16).toNatClampNeg) / x11))))) rfl (fun _ => ?_)
          refine pm_ilt (fun y => (191, [some (.ref 15), some (.ref 1), some (.int a2), some (.int x1), some (.long x11), none, some (.long x15), none, some (.int x16)], [], y)) (fun M30 => ?_)
          exact hj23 _
    · refine pm_irun 3 (σ' := (73, [some (.ref 15), some (.ref 1), some (.int a2), some (.int x1), some (.long x11), none, some (.int x12), none, none], [.int a2, .ref 18], M10)) rfl ?_
      refine pm_igd (σ1 := (74, [some (.ref 15), some (.ref 1), some (.int a2), some (.int x1), some (.long x11), none, some (.int x12), none, none], [.int (M10.1 18 a2.toNatClampNeg)], M10)) rfl (fun _ => ?_)
      refine pm_ijn (fun (g : Int32 → pm_M → Option (pm_M)) => ∀ (q33 : Int32) (M32 : pm_M), I_Tours_reckon (g q33 M32) (96, [some (.ref 15), some (.ref 1), some (.int a2), some (.int x1), some (.long x11), none, some (.int x12), none, none], [.int q33], M32)) (fun (q33 : Int32) (M32 : pm_M) => ?_) (fun j31 hj31 => ?_)
      · show I_Tours_reckon _ (96, [some (.ref 15), some (.ref 1), some (.int a2), some (.int x1), some (.long x11), none, some (.int x12), none, none], [.int q33], M32)
        refine pm_irun 1 (σ' := (98, [some (.ref 15), some (.ref 1), some (.int a2), some (.int x1), some (.long x11), none, some (.int x12), some (.int q33), none], [], M32)) rfl ?_
        refine pm_irun 6 (σ' := (108, [some (.ref 15), some (.ref 1), some (.int a2), some (.int x1), some (.long x11), none, some (.int x12), some (.int q33), none], [.int q33, .int (x1 + x12), .ref 19], M32)) rfl ?_
        refine pm_ijn (fun (g : Int64 → pm_M → Option (pm_M)) => ∀ (q36 : Int64) (M35 : pm_M), I_Tours_reckon (g q36 M35) (132, [some (.ref 15), some (.ref 1), some (.int a2), some (.int x1), some (.long x11), none, some (.int x12), none, none], [.long q36, .int (x1 + x12), .ref 19], M35)) (fun (q36 : Int64) (M35 : pm_M) => ?_) (fun j34 hj34 => ?_)
        · show I_Tours_reckon _ (132, [some (.ref 15), some (.ref 1), some (.int a2), some (.int x1), some (.long x11), none, some (.int x12), none, none], [.long q36, .int (x1 + x12), .ref 19], M35)
          refine pm_igd (σ1 := (133, [some (.ref 15), some (.ref 1), some (.int a2), some (.int x1), some (.long x11), none, some (.int x12), none, none], [], (pm_sL M35 19 (x1 + x12).toNatClampNeg q36))) rfl (fun _ => ?_)
          refine pm_ilt (fun y => (133, [some (.ref 15), some (.ref 1), some (.int a2), some (.int x1), some (.long x11), none, some (.int x12), none, none], [], y)) (fun M37 => ?_)
          refine pm_irun 6 (σ' := (143, [some (.ref 15), some (.ref 1), some (.int a2), some (.int x1), some (.long x11), none, some (.int x12), none, none], [.int (x1 + x12), .ref 19, .long x11], M37)) rfl ?_
          refine pm_igd (σ1 := (144, [some (.ref 15), some (.ref 1), some (.int a2), some (.int x1), some (.long x11), none, some (.int x12), none, none], [.long (M37.2 19 (x1 + x12).toNatClampNeg), .long x11], M37)) rfl (fun _ => ?_)
          refine pm_icL (as := [.long x11, .long (M37.2 19 (x1 + x12).toNatClampNeg)]) (rest := []) rfl rfl rfl rfl (Nat.le_of_ble_eq_true rfl) rfl (fun r h => pm_Ev_mono (Nat.le_of_ble_eq_true rfl) (sC_commonDivisor_ok x11 (M37.2 19 (x1 + x12).toNatClampNeg) M37 r h)) (fun v39 M38 => ?_)
          show pm_Im _ _ _ _ _ _ (147, [some (.ref 15), some (.ref 1), some (.int a2), some (.int x1), some (.long x11), none, some (.int x12), none, none], [.long v39], M38)
          refine pm_irun 1 (σ' := (149, [some (.ref 15), some (.ref 1), some (.int a2), some (.int x1), some (.long v39), none, some (.int x12), none, none], [], M38)) rfl ?_
          refine pm_irun 1 (σ' := (152, [some (.ref 15), some (.ref 1), some (.int a2), some (.int x1), some (.long v39), none, some (.int (x12 + (1 : Int32))), none, none], [], M38)) rfl ?_
          refine pm_ilt (fun y => (152, [some (.ref 15), some (.ref 1), some (.int a2), some (.int x1), some (.long v39), none, some (.int y), none, none], [], M38)) (fun x40 => ?_)
          refine pm_irun 1 (σ' := (59, [some (.ref 15), some (.ref 1), some (.int a2), some (.int x1), some (.long v39), none, some (.int x40), none, none], [], M38)) rfl ?_
          exact hg9 _ _ _
        refine pm_iite (σ1 := (131, [some (.ref 15), some (.ref 1), some (.int a2), some (.int x1), some (.long x11), none, some (.int x12), some (.int q33), none], [.int (x1 + x12), .ref 19], M32)) (σ2 := (111, [some (.ref 15), some (.ref 1), some (.int a2), some (.int x1), some (.long x11), none, some (.int x12), some (.int q33), none], [.int (x1 + x12), .ref 19], M32)) rfl (fun _ => ?_) (fun _ => ?_)
        · refine pm_irun 1 (σ' := (132, [some (.ref 15), some (.ref 1), some (.int a2), some (.int x1), some (.long x11), none, some (.int x12), some (.int q33), none], [.long (0 : Int64), .int (x1 + x12), .ref 19], M32)) rfl ?_
          refine pm_iwk (al' := [some (.ref 15), some (.ref 1), some (.int a2), some (.int x1), some (.long x11), none, some (.int x12), none, none]) (pm_wkS (pm_wkS (pm_wkS (pm_wkS (pm_wkS (pm_wkS (pm_wkS (pm_wkN (pm_wkS pm_wk0))))))))) ?_
          exact hj34 _ _
        · refine pm_irun 4 (σ' := (116, [some (.ref 15), some (.ref 1), some (.int a2), some (.int x1), some (.long x11), none, some (.int x12), some (.int q33), none], [.int x12, .int a2, .ref 1, .ref 15, .int (x1 + x12), .ref 19], M32)) rfl ?_
          refine pm_icL (as := [.ref 15, .ref 1, .int a2, .int x12]) (rest := [.int (x1 + x12), .ref 19]) rfl rfl rfl rfl (Nat.le_of_ble_eq_true rfl) rfl (fun r h => pm_Ev_mono (Nat.le_of_ble_eq_true rfl) (sTours_treesTo_ok a2 x12 M32 r h)) (fun v42 M41 => ?_)
          show pm_Im _ _ _ _ _ _ (119, [some (.ref 15), some (.ref 1), some (.int a2), some (.int x1), some (.long x11), none, some (.int x12), some (.int q33), none], [.long v42, .int (x1 + x12), .ref 19], M41)
          refine pm_irun 3 (σ' := (123, [some (.ref 15), some (.ref 1), some (.int a2), some (.int x1), some (.long x11), none, some (.int x12), some (.int q33), none], [.int x12, .int a2, .ref 1, .long v42, .int (x1 + x12), .ref 19], M41)) rfl ?_
          refine pm_icI (as := [.ref 1, .int a2, .int x12]) (rest := [.long v42, .int (x1 + x12), .ref 19]) rfl rfl rfl rfl (Nat.le_of_ble_eq_true rfl) rfl (fun r h => pm_Ev_mono (Nat.le_of_ble_eq_true rfl) (sNet_weightsFrom_1_ok a2 x12 M41 r h)) (fun v44 M43 => ?_)
          show pm_Im _ _ _ _ _ _ (126, [some (.ref 15), some (.ref 1), some (.int a2), some (.int x1), some (.long x11), none, some (.int x12), some (.int q33), none], [.int v44, .long v42, .int (x1 + x12), .ref 19], M43)
          refine pm_irun 3 (σ' := (132, [some (.ref 15), some (.ref 1), some (.int a2), some (.int x1), some (.long x11), none, some (.int x12), some (.int q33), none], [.long (v42 * v44.toInt64), .int (x1 + x12), .ref 19], M43)) rfl ?_
          refine pm_iwk (al' := [some (.ref 15), some (.ref 1), some (.int a2), some (.int x1), some (.long x11), none, some (.int x12), none, none]) (pm_wkS (pm_wkS (pm_wkS (pm_wkS (pm_wkS (pm_wkS (pm_wkS (pm_wkN (pm_wkS pm_wk0))))))))) ?_
          exact hj34 _ _
      refine pm_ijn (fun (g : pm_M → Option (pm_M)) => ∀ (M46 : pm_M), I_Tours_reckon (g M46) (95, [some (.ref 15), some (.ref 1), some (.int a2), some (.int x1), some (.long x11), none, some (.int x12), none, none], [], M46)) (fun (M46 : pm_M) => ?_) (fun j45 hj45 => ?_)
      · show I_Tours_reckon _ (95, [some (.ref 15), some (.ref 1), some (.int a2), some (.int x1), some (.long x11), none, some (.int x12), none, none], [], M46)
        refine pm_irun 1 (σ' := (96, [some (.ref 15), some (.ref 1), some (.int a2), some (.int x1), some (.long x11), none, some (.int x12), none, none], [.int (0 : Int32)], M46)) rfl ?_
        exact hj31 _ _
      refine pm_iite (σ1 := (95, [some (.ref 15), some (.ref 1), some (.int a2), some (.int x1), some (.long x11), none, some (.int x12), none, none], [], M10)) (σ2 := (77, [some (.ref 15), some (.ref 1), some (.int a2), some (.int x1), some (.long x11), none, some (.int x12), none, none], [], M10)) rfl (fun _ => ?_) (fun _ => ?_)
      · exact hj45 _
      · refine pm_irun 3 (σ' := (82, [some (.ref 15), some (.ref 1), some (.int a2), some (.int x1), some (.long x11), none, some (.int x12), none, none], [.int a2, .ref 17], M10)) rfl ?_
        refine pm_igd (σ1 := (83, [some (.ref 15), some (.ref 1), some (.int a2), some (.int x1), some (.long x11), none, some (.int x12), none, none], [.int (M10.1 17 a2.toNatClampNeg)], M10)) rfl (fun _ => ?_)
        refine pm_irun 1 (σ' := (85, [some (.ref 15), some (.ref 1), some (.int a2), some (.int x1), some (.long x11), none, some (.int x12), none, none], [.int x12, .int (M10.1 17 a2.toNatClampNeg)], M10)) rfl ?_
        refine pm_icI (as := [.int (M10.1 17 a2.toNatClampNeg), .int x12]) (rest := []) rfl rfl rfl rfl (Nat.le_of_ble_eq_true rfl) rfl (fun r h => pm_Ev_mono (Nat.le_of_ble_eq_true rfl) (sTours_hasBit_ok (M10.1 17 a2.toNatClampNeg) x12 M10 r h)) (fun v48 M47 => ?_)
        show pm_Im _ _ _ _ _ _ (88, [some (.ref 15), some (.ref 1), some (.int a2), some (.int x1), some (.long x11), none, some (.int x12), none, none], [.int v48], M47)
        refine pm_iite (σ1 := (95, [some (.ref 15), some (.ref 1), some (.int a2), some (.int x1), some (.long x11), none, some (.int x12), none, none], [], M47)) (σ2 := (91, [some (.ref 15), some (.ref 1), some (.int a2), some (.int x1), some (.long x11), none, some (.int x12), none, none], [], M47)) rfl (fun _ => ?_) (fun _ => ?_)
        · exact hj45 _
        · refine pm_irun 2 (σ' := (96, [some (.ref 15), some (.ref 1), some (.int a2), some (.int x1), some (.long x11), none, some (.int x12), none, none], [.int (1 : Int32)], M47)) rfl ?_
          exact hj31 _ _
  refine pm_ijn (fun (g : pm_M → Option (pm_M)) => ∀ (M50 : pm_M), I_Tours_reckon (g M50) (51, [some (.ref 15), some (.ref 1), some (.int a2), some (.int x1), none, none, none, none, none], [.int a2, .ref 18], M50)) (fun (M50 : pm_M) => ?_) (fun j49 hj49 => ?_)
  · show I_Tours_reckon _ (51, [some (.ref 15), some (.ref 1), some (.int a2), some (.int x1), none, none, none, none, none], [.int a2, .ref 18], M50)
    refine pm_irun 1 (σ' := (52, [some (.ref 15), some (.ref 1), some (.int a2), some (.int x1), none, none, none, none, none], [.int (0 : Int32), .int a2, .ref 18], M50)) rfl ?_
    exact hj5 _ _
  refine pm_iite (σ1 := (51, [some (.ref 15), some (.ref 1), some (.int a2), some (.int x1), none, none, none, none, none], [.int a2, .ref 18], M4)) (σ2 := (30, [some (.ref 15), some (.ref 1), some (.int a2), some (.int x1), none, none, none, none, none], [.int a2, .ref 18], M4)) rfl (fun _ => ?_) (fun _ => ?_)
  · exact hj49 _
  · refine pm_irun 3 (σ' := (35, [some (.ref 15), some (.ref 1), some (.int a2), some (.int x1), none, none, none, none, none], [.int a2, .ref 17, .int a2, .ref 18], M4)) rfl ?_
    refine pm_igd (σ1 := (36, [some (.ref 15), some (.ref 1), some (.int a2), some (.int x1), none, none, none, none, none], [.int (M4.1 17 a2.toNatClampNeg), .int a2, .ref 18], M4)) rfl (fun _ => ?_)
    refine pm_irun 2 (σ' := (38, [some (.ref 15), some (.ref 1), some (.int a2), some (.int x1), none, none, none, none, none], [.int a2, .ref 1, .int (M4.1 17 a2.toNatClampNeg), .int a2, .ref 18], M4)) rfl ?_
    refine pm_icI (as := [.ref 1, .int a2]) (rest := [.int (M4.1 17 a2.toNatClampNeg), .int a2, .ref 18]) rfl rfl rfl rfl (Nat.le_of_ble_eq_true rfl) rfl (fun r h => pm_Ev_mono (Nat.le_of_ble_eq_true rfl) (sTours_findReturning_ok a2 M4 r h)) (fun v52 M51 => ?_)
    show pm_Im _ _ _ _ _ _ (41, [some (.ref 15), some (.ref 1), some (.int a2), some (.int x1), none, none, none, none, none], [.int v52, .int (M4.1 17 a2.toNatClampNeg), .int a2, .ref 18], M51)
    refine pm_irun 3 (σ' := (44, [some (.ref 15), some (.ref 1), some (.int a2), some (.int x1), none, none, none, none, none], [.int ((M4.1 17 a2.toNatClampNeg) &&& (v52 ^^^ (-1 : Int32))), .int a2, .ref 18], M51)) rfl ?_
    refine pm_iite (σ1 := (51, [some (.ref 15), some (.ref 1), some (.int a2), some (.int x1), none, none, none, none, none], [.int a2, .ref 18], M51)) (σ2 := (47, [some (.ref 15), some (.ref 1), some (.int a2), some (.int x1), none, none, none, none, none], [.int a2, .ref 18], M51)) rfl (fun _ => ?_) (fun _ => ?_)
    · exact hj49 _
    · refine pm_irun 2 (σ' := (52, [some (.ref 15), some (.ref 1), some (.int a2), some (.int x1), none, none, none, none, none], [.int (1 : Int32), .int a2, .ref 18], M51)) rfl ?_
      exact hj5 _ _
def sTours_demandOf (a1 : Int32) (a2 : Int32) (M : pm_M) : Option (Int64 × pm_M) := if pm_in ((a1 * (5 : Int32)) + a2) 10 then (some ((M.2 20 ((a1 * (5 : Int32)) + a2).toNatClampNeg), M)) else none
abbrev I_Tours_demandOf (sh : Option (Int64 × pm_M)) (σ : pm_St) : Prop := pm_Im none (pm_Ev 0) pm_T37 (some .long) pm_rL sh σ
set_option maxHeartbeats 4000000 in
set_option maxRecDepth 100000 in
theorem sTours_demandOf_ok (a1 : Int32) (a2 : Int32) (M : pm_M) : ∀ r, sTours_demandOf a1 a2 M = some r → pm_Ev 1 37 [.ref 15, .int a1, .int a2] M (pm_rL r).1 (pm_rL r).2 := by
  refine pm_meth (al := [some (.ref 15), some (.int a1), some (.int a2)]) rfl rfl rfl rfl rfl ?_
  unfold sTours_demandOf
  show I_Tours_demandOf _ (0, [some (.ref 15), some (.int a1), some (.int a2)], [], M)
  refine pm_irun 7 (σ' := (9, [some (.ref 15), some (.int a1), some (.int a2)], [.int ((a1 * (5 : Int32)) + a2), .ref 20], M)) rfl ?_
  refine pm_igd (σ1 := (10, [some (.ref 15), some (.int a1), some (.int a2)], [.long (M.2 20 ((a1 * (5 : Int32)) + a2).toNatClampNeg)], M)) rfl (fun _ => ?_)
  exact pm_irL rfl rfl
def sStates_load  (M : pm_M) : Option (pm_M) := pm_lt (pm_sI M 23 0 ((M.1 1 0))) fun M1 => pm_lt (pm_sI M1 23 1 ((M1.1 5 0))) fun M2 => pm_lt (pm_sI M2 23 2 ((M2.1 5 1))) fun M3 => pm_lt (pm_sI M3 23 3 (0 : Int32)) fun M4 => pm_loop (fun _ _ => none) (fun (g5 : Int32 → pm_M → Option (pm_M)) x7 M6 => if (M6.1 23 0) ≤ x7 then (some M6) else (if pm_in x7 5 then (pm_jn (fun (q10 : Int32) (M9 : pm_M) => if pm_in x7 5 ∧ (q10 = 0 ∨ q10 = 1) then (pm_lt (pm_sI M9 24 x7.toNatClampNeg q10) fun M11 => pm_jn (fun (q14 : Int64) (M13 : pm_M) => if pm_in x7 10 then (pm_lt (pm_sL M13 25 x7.toNatClampNeg q14) fun M15 => pm_jn (fun (q18 : Int64) (M17 : pm_M) => if pm_in ((5 : Int32) + x7) 10 then (pm_lt (pm_sL M17 25 ((5 : Int32) + x7).toNatClampNeg q18) fun M19 => pm_lt ((x7 + (1 : Int32))) fun x20 => g5 x20 M19) else none) fun (j16 : Int64 → pm_M → Option (pm_M)) => if (M15.1 23 2) ≤ 0 then (j16 (0 : Int64) M15) else (pm_bd (sTours_demandOf (1 : Int32) x7 M15) fun v22 M21 => j16 v22 M21)) else none) fun (j12 : Int64 → pm_M → Option (pm_M)) => if (M11.1 23 1) ≤ 0 then (j12 (0 : Int64) M11) else (pm_bd (sTours_demandOf (0 : Int32) x7 M11) fun v24 M23 => j12 v24 M23)) else none) fun (j8 : Int32 → pm_M → Option (pm_M)) => if ¬ (M6.1 2 x7.toNatClampNeg) = (3 : Int32) then (j8 (0 : Int32) M6) else (j8 (1 : Int32) M6)) else none)) 1000000 (0 : Int32) M4
abbrev I_States_load (sh : Option (pm_M)) (σ : pm_St) : Prop := pm_Im none (pm_Ev 1) pm_T13 none pm_rV sh σ
set_option maxHeartbeats 4000000 in
set_option maxRecDepth 100000 in
theorem sStates_load_ok  (M : pm_M) : ∀ r, sStates_load  M = some r → pm_Ev 2 13 [.ref 23, .ref 1, .ref 15] M (pm_rV r).1 (pm_rV r).2 := by
  refine pm_meth (al := [some (.ref 23), some (.ref 1), some (.ref 15), none]) rfl rfl rfl rfl rfl ?_
  unfold sStates_load
  show I_States_load _ (0, [some (.ref 23), some (.ref 1), some (.ref 15), none], [], M)
  refine pm_irun 3 (σ' := (5, [some (.ref 23), some (.ref 1), some (.ref 15), none], [.int (M.1 1 0), .ref 23], M)) rfl ?_
  refine pm_irun 1 (σ' := (8, [some (.ref 23), some (.ref 1), some (.ref 15), none], [], (pm_sI M 23 0 ((M.1 1 0))))) rfl ?_
  refine pm_ilt (fun y => (8, [some (.ref 23), some (.ref 1), some (.ref 15), none], [], y)) (fun M1 => ?_)
  refine pm_irun 4 (σ' := (14, [some (.ref 23), some (.ref 1), some (.ref 15), none], [.int (0 : Int32), .ref 5, .ref 23], M1)) rfl ?_
  refine pm_igt (c := pm_in (0 : Int32) 2) (σ1 := (15, [some (.ref 23), some (.ref 1), some (.ref 15), none], [.int (M1.1 5 0), .ref 23], M1)) (by decide) rfl ?_
  refine pm_irun 1 (σ' := (18, [some (.ref 23), some (.ref 1), some (.ref 15), none], [], (pm_sI M1 23 1 ((M1.1 5 0))))) rfl ?_
  refine pm_ilt (fun y => (18, [some (.ref 23), some (.ref 1), some (.ref 15), none], [], y)) (fun M2 => ?_)
  refine pm_irun 4 (σ' := (24, [some (.ref 23), some (.ref 1), some (.ref 15), none], [.int (1 : Int32), .ref 5, .ref 23], M2)) rfl ?_
  refine pm_igt (c := pm_in (1 : Int32) 2) (σ1 := (25, [some (.ref 23), some (.ref 1), some (.ref 15), none], [.int (M2.1 5 1), .ref 23], M2)) (by decide) rfl ?_
  refine pm_irun 1 (σ' := (28, [some (.ref 23), some (.ref 1), some (.ref 15), none], [], (pm_sI M2 23 2 ((M2.1 5 1))))) rfl ?_
  refine pm_ilt (fun y => (28, [some (.ref 23), some (.ref 1), some (.ref 15), none], [], y)) (fun M3 => ?_)
  refine pm_irun 2 (σ' := (30, [some (.ref 23), some (.ref 1), some (.ref 15), none], [.int (0 : Int32), .ref 23], M3)) rfl ?_
  refine pm_igt (c := (0 : Int32) = 0 ∨ (0 : Int32) = 1) (σ1 := (33, [some (.ref 23), some (.ref 1), some (.ref 15), none], [], (pm_sI M3 23 3 (0 : Int32)))) (by decide) rfl ?_
  refine pm_ilt (fun y => (33, [some (.ref 23), some (.ref 1), some (.ref 15), none], [], y)) (fun M4 => ?_)
  refine pm_irun 2 (σ' := (35, [some (.ref 23), some (.ref 1), some (.ref 15), some (.int (0 : Int32))], [], M4)) rfl ?_
  refine pm_iloop (fun (g : Int32 → pm_M → Option (pm_M)) => ∀ (x7 : Int32) (M6 : pm_M), I_States_load (g x7 M6) (35, [some (.ref 23), some (.ref 1), some (.ref 15), some (.int x7)], [], M6)) (fun _ _ => pm_inone) (fun g5 hg5 x7 M6 => ?_) 1000000 _ _
  show I_States_load _ (35, [some (.ref 23), some (.ref 1), some (.ref 15), some (.int x7)], [], M6)
  refine pm_irun 3 (σ' := (40, [some (.ref 23), some (.ref 1), some (.ref 15), some (.int x7)], [.int (M6.1 23 0), .int x7], M6)) rfl ?_
  refine pm_iite (σ1 := (118, [some (.ref 23), some (.ref 1), some (.ref 15), some (.int x7)], [], M6)) (σ2 := (43, [some (.ref 23), some (.ref 1), some (.ref 15), some (.int x7)], [], M6)) rfl (fun _ => ?_) (fun _ => ?_)
  · exact pm_irV rfl rfl
  · refine pm_irun 6 (σ' := (53, [some (.ref 23), some (.ref 1), some (.ref 15), some (.int x7)], [.int x7, .ref 2, .int x7, .ref 24], M6)) rfl ?_
    refine pm_igd (σ1 := (54, [some (.ref 23), some (.ref 1), some (.ref 15), some (.int x7)], [.int (M6.1 2 x7.toNatClampNeg), .int x7, .ref 24], M6)) rfl (fun _ => ?_)
    refine pm_irun 1 (σ' := (55, [some (.ref 23), some (.ref 1), some (.ref 15), some (.int x7)], [.int (3 : Int32), .int (M6.1 2 x7.toNatClampNeg), .int x7, .ref 24], M6)) rfl ?_
    refine pm_ijn (fun (g : Int32 → pm_M → Option (pm_M)) => ∀ (q10 : Int32) (M9 : pm_M), I_States_load (g q10 M9) (63, [some (.ref 23), some (.ref 1), some (.ref 15), some (.int x7)], [.int q10, .int x7, .ref 24], M9)) (fun (q10 : Int32) (M9 : pm_M) => ?_) (fun j8 hj8 => ?_)
    · show I_States_load _ (63, [some (.ref 23), some (.ref 1), some (.ref 15), some (.int x7)], [.int q10, .int x7, .ref 24], M9)
      refine pm_igd (σ1 := (64, [some (.ref 23), some (.ref 1), some (.ref 15), some (.int x7)], [], (pm_sI M9 24 x7.toNatClampNeg q10))) rfl (fun _ => ?_)
      refine pm_ilt (fun y => (64, [some (.ref 23), some (.ref 1), some (.ref 15), some (.int x7)], [], y)) (fun M11 => ?_)
      refine pm_irun 5 (σ' := (73, [some (.ref 23), some (.ref 1), some (.ref 15), some (.int x7)], [.int (M11.1 23 1), .int x7, .ref 25], M11)) rfl ?_
      refine pm_ijn (fun (g : Int64 → pm_M → Option (pm_M)) => ∀ (q14 : Int64) (M13 : pm_M), I_States_load (g q14 M13) (86, [some (.ref 23), some (.ref 1), some (.ref 15), some (.int x7)], [.long q14, .int x7, .ref 25], M13)) (fun (q14 : Int64) (M13 : pm_M) => ?_) (fun j12 hj12 => ?_)
      · show I_States_load _ (86, [some (.ref 23), some (.ref 1), some (.ref 15), some (.int x7)], [.long q14, .int x7, .ref 25], M13)
        refine pm_igd (σ1 := (87, [some (.ref 23), some (.ref 1), some (.ref 15), some (.int x7)], [], (pm_sL M13 25 x7.toNatClampNeg q14))) rfl (fun _ => ?_)
        refine pm_ilt (fun y => (87, [some (.ref 23), some (.ref 1), some (.ref 15), some (.int x7)], [], y)) (fun M15 => ?_)
        refine pm_irun 7 (σ' := (98, [some (.ref 23), some (.ref 1), some (.ref 15), some (.int x7)], [.int (M15.1 23 2), .int ((5 : Int32) + x7), .ref 25], M15)) rfl ?_
        refine pm_ijn (fun (g : Int64 → pm_M → Option (pm_M)) => ∀ (q18 : Int64) (M17 : pm_M), I_States_load (g q18 M17) (111, [some (.ref 23), some (.ref 1), some (.ref 15), some (.int x7)], [.long q18, .int ((5 : Int32) + x7), .ref 25], M17)) (fun (q18 : Int64) (M17 : pm_M) => ?_) (fun j16 hj16 => ?_)
        · show I_States_load _ (111, [some (.ref 23), some (.ref 1), some (.ref 15), some (.int x7)], [.long q18, .int ((5 : Int32) + x7), .ref 25], M17)
          refine pm_igd (σ1 := (112, [some (.ref 23), some (.ref 1), some (.ref 15), some (.int x7)], [], (pm_sL M17 25 ((5 : Int32) + x7).toNatClampNeg q18))) rfl (fun _ => ?_)
          refine pm_ilt (fun y => (112, [some (.ref 23), some (.ref 1), some (.ref 15), some (.int x7)], [], y)) (fun M19 => ?_)
          refine pm_irun 1 (σ' := (115, [some (.ref 23), some (.ref 1), some (.ref 15), some (.int (x7 + (1 : Int32)))], [], M19)) rfl ?_
          refine pm_ilt (fun y => (115, [some (.ref 23), some (.ref 1), some (.ref 15), some (.int y)], [], M19)) (fun x20 => ?_)
          refine pm_irun 1 (σ' := (35, [some (.ref 23), some (.ref 1), some (.ref 15), some (.int x20)], [], M19)) rfl ?_
          exact hg5 _ _
        refine pm_iite (σ1 := (110, [some (.ref 23), some (.ref 1), some (.ref 15), some (.int x7)], [.int ((5 : Int32) + x7), .ref 25], M15)) (σ2 := (101, [some (.ref 23), some (.ref 1), some (.ref 15), some (.int x7)], [.int ((5 : Int32) + x7), .ref 25], M15)) rfl (fun _ => ?_) (fun _ => ?_)
        · refine pm_irun 1 (σ' := (111, [some (.ref 23), some (.ref 1), some (.ref 15), some (.int x7)], [.long (0 : Int64), .int ((5 : Int32) + x7), .ref 25], M15)) rfl ?_
          exact hj16 _ _
        · refine pm_irun 3 (σ' := (104, [some (.ref 23), some (.ref 1), some (.ref 15), some (.int x7)], [.int x7, .int (1 : Int32), .ref 15, .int ((5 : Int32) + x7), .ref 25], M15)) rfl ?_
          refine pm_icL (as := [.ref 15, .int (1 : Int32), .int x7]) (rest := [.int ((5 : Int32) + x7), .ref 25]) rfl rfl rfl rfl (Nat.le_of_ble_eq_true rfl) rfl (fun r h => pm_Ev_mono (Nat.le_of_ble_eq_true rfl) (sTours_demandOf_ok (1 : Int32) x7 M15 r h)) (fun v22 M21 => ?_)
          show pm_Im _ _ _ _ _ _ (107, [some (.ref 23), some (.ref 1), some (.ref 15), some (.int x7)], [.long v22, .int ((5 : Int32) + x7), .ref 25], M21)
          refine pm_irun 1 (σ' := (111, [some (.ref 23), some (.ref 1), some (.ref 15), some (.int x7)], [.long v22, .int ((5 : Int32) + x7), .ref 25], M21)) rfl ?_
          exact hj16 _ _
      refine pm_iite (σ1 := (85, [some (.ref 23), some (.ref 1), some (.ref 15), some (.int x7)], [.int x7, .ref 25], M11)) (σ2 := (76, [some (.ref 23), some (.ref 1), some (.ref 15), some (.int x7)], [.int x7, .ref 25], M11)) rfl (fun _ => ?_) (fun _ => ?_)
      · refine pm_irun 1 (σ' := (86, [some (.ref 23), some (.ref 1), some (.ref 15), some (.int x7)], [.long (0 : Int64), .int x7, .ref 25], M11)) rfl ?_
        exact hj12 _ _
      · refine pm_irun 3 (σ' := (79, [some (.ref 23), some (.ref 1), some (.ref 15), some (.int x7)], [.int x7, .int (0 : Int32), .ref 15, .int x7, .ref 25], M11)) rfl ?_
        refine pm_icL (as := [.ref 15, .int (0 : Int32), .int x7]) (rest := [.int x7, .ref 25]) rfl rfl rfl rfl (Nat.le_of_ble_eq_true rfl) rfl (fun r h => pm_Ev_mono (Nat.le_of_ble_eq_true rfl) (sTours_demandOf_ok (0 : Int32) x7 M11 r h)) (fun v24 M23 => ?_)
        show pm_Im _ _ _ _ _ _ (82, [some (.ref 23), some (.ref 1), some (.ref 15), some (.int x7)], [.long v24, .int x7, .ref 25], M23)
        refine pm_irun 1 (σ' := (86, [some (.ref 23), some (.ref 1), some (.ref 15), some (.int x7)], [.long v24, .int x7, .ref 25], M23)) rfl ?_
        exact hj12 _ _
    refine pm_iite (σ1 := (62, [some (.ref 23), some (.ref 1), some (.ref 15), some (.int x7)], [.int x7, .ref 24], M6)) (σ2 := (58, [some (.ref 23), some (.ref 1), some (.ref 15), some (.int x7)], [.int x7, .ref 24], M6)) rfl (fun _ => ?_) (fun _ => ?_)
    · refine pm_irun 1 (σ' := (63, [some (.ref 23), some (.ref 1), some (.ref 15), some (.int x7)], [.int (0 : Int32), .int x7, .ref 24], M6)) rfl ?_
      exact hj8 _ _
    · refine pm_irun 2 (σ' := (63, [some (.ref 23), some (.ref 1), some (.ref 15), some (.int x7)], [.int (1 : Int32), .int x7, .ref 24], M6)) rfl ?_
      exact hj8 _ _
def sC_netTold  (M : pm_M) : Option (pm_M) := pm_bv (sTruth_forget M) fun M1 => pm_bv (sTours_reckon (0 : Int32) M1) fun M2 => pm_bv (sTours_reckon (1 : Int32) M2) fun M3 => pm_bv (sStates_load M3) fun M4 => some M4
abbrev I_C_netTold (sh : Option (pm_M)) (σ : pm_St) : Prop := pm_Im none (pm_Ev 3) pm_T103 none pm_rV sh σ
set_option maxHeartbeats 4000000 in
set_option maxRecDepth 100000 in
theorem sC_netTold_ok  (M : pm_M) : ∀ r, sC_netTold  M = some r → pm_Ev 4 103 [.ref 0] M (pm_rV r).1 (pm_rV r).2 := by
  refine pm_meth (al := [some (.ref 0)]) rfl rfl rfl rfl rfl ?_
  unfold sC_netTold
  show I_C_netTold _ (0, [some (.ref 0)], [], M)
  refine pm_irun 2 (σ' := (4, [some (.ref 0)], [.ref 30], M)) rfl ?_
  refine pm_icV (as := [.ref 30]) (rest := []) rfl rfl rfl rfl (Nat.le_of_ble_eq_true rfl) rfl (fun r h => pm_Ev_mono (Nat.le_of_ble_eq_true rfl) (sTruth_forget_ok M r h)) (fun M1 => ?_)
  show pm_Im _ _ _ _ _ _ (7, [some (.ref 0)], [], M1)
  refine pm_irun 5 (σ' := (16, [some (.ref 0)], [.int (0 : Int32), .ref 1, .ref 15], M1)) rfl ?_
  refine pm_icV (as := [.ref 15, .ref 1, .int (0 : Int32)]) (rest := []) rfl rfl rfl rfl (Nat.le_of_ble_eq_true rfl) rfl (fun r h => pm_Ev_mono (Nat.le_of_ble_eq_true rfl) (sTours_reckon_ok (0 : Int32) M1 r h)) (fun M2 => ?_)
  show pm_Im _ _ _ _ _ _ (19, [some (.ref 0)], [], M2)
  refine pm_irun 5 (σ' := (28, [some (.ref 0)], [.int (1 : Int32), .ref 1, .ref 15], M2)) rfl ?_
  refine pm_icV (as := [.ref 15, .ref 1, .int (1 : Int32)]) (rest := []) rfl rfl rfl rfl (Nat.le_of_ble_eq_true rfl) rfl (fun r h => pm_Ev_mono (Nat.le_of_ble_eq_true rfl) (sTours_reckon_ok (1 : Int32) M2 r h)) (fun M3 => ?_)
  show pm_Im _ _ _ _ _ _ (31, [some (.ref 0)], [], M3)
  refine pm_irun 6 (σ' := (43, [some (.ref 0)], [.ref 15, .ref 1, .ref 23], M3)) rfl ?_
  refine pm_icV (as := [.ref 23, .ref 1, .ref 15]) (rest := []) rfl rfl rfl rfl (Nat.le_of_ble_eq_true rfl) rfl (fun r h => pm_Ev_mono (Nat.le_of_ble_eq_true rfl) (sStates_load_ok M3 r h)) (fun M4 => ?_)
  show pm_Im _ _ _ _ _ _ (46, [some (.ref 0)], [], M4)
  exact pm_irV rfl rfl
def sC_station (a1 : Int32) (a2 : Int32) (a3 : Int32) (M : pm_M) : Option (Int32 × pm_M) := pm_bd (sC_isKind a1 M) fun v2 M1 => if v2 = 0 then (some ((-2 : Int32), M1)) else (pm_bd (sC_isTime a2 M1) fun v4 M3 => if v4 = 0 then (some ((-2 : Int32), M3)) else (pm_bd (sC_isTime a3 M3) fun v6 M5 => if ¬ v6 = 0 then (if (M5.1 1 0) < (5 : Int32) then (pm_lt ((M5.1 1 0)) fun x7 => pm_lt (pm_sI M5 1 0 (((M5.1 1 0) + (1 : Int32)))) fun M8 => if pm_in x7 5 then (pm_lt (pm_sI M8 2 x7.toNatClampNeg a1) fun M9 => if pm_in x7 10 then (pm_lt (pm_sI M9 3 x7.toNatClampNeg a2) fun M10 => if pm_in ((5 : Int32) + x7) 10 then (pm_lt (pm_sI M10 3 ((5 : Int32) + x7).toNatClampNeg a3) fun M11 => pm_bv (sC_netTold M11) fun M12 => some (x7, M12)) else none) else none) else none) else (some ((-4 : Int32), M5))) else (some ((-2 : Int32), M5))))
abbrev I_C_station (sh : Option (Int32 × pm_M)) (σ : pm_St) : Prop := pm_Im none (pm_Ev 4) pm_T57 (some .int) pm_rI sh σ
set_option maxHeartbeats 4000000 in
set_option maxRecDepth 100000 in
theorem sC_station_ok (a1 : Int32) (a2 : Int32) (a3 : Int32) (M : pm_M) : ∀ r, sC_station a1 a2 a3 M = some r → pm_Ev 5 57 [.ref 0, .int a1, .int a2, .int a3] M (pm_rI r).1 (pm_rI r).2 := by
  refine pm_meth (al := [some (.ref 0), some (.int a1), some (.int a2), some (.int a3), none]) rfl rfl rfl rfl rfl ?_
  unfold sC_station
  show I_C_station _ (0, [some (.ref 0), some (.int a1), some (.int a2), some (.int a3), none], [], M)
  refine pm_irun 1 (σ' := (1, [some (.ref 0), some (.int a1), some (.int a2), some (.int a3), none], [.int a1], M)) rfl ?_
  refine pm_icI (as := [.int a1]) (rest := []) rfl rfl rfl rfl (Nat.le_of_ble_eq_true rfl) rfl (fun r h => pm_Ev_mono (Nat.le_of_ble_eq_true rfl) (sC_isKind_ok a1 M r h)) (fun v2 M1 => ?_)
  show pm_Im _ _ _ _ _ _ (4, [some (.ref 0), some (.int a1), some (.int a2), some (.int a3), none], [.int v2], M1)
  refine pm_iite (σ1 := (21, [some (.ref 0), some (.int a1), some (.int a2), some (.int a3), none], [], M1)) (σ2 := (7, [some (.ref 0), some (.int a1), some (.int a2), some (.int a3), none], [], M1)) rfl (fun _ => ?_) (fun _ => ?_)
  · refine pm_irun 1 (σ' := (23, [some (.ref 0), some (.int a1), some (.int a2), some (.int a3), none], [.int (-2 : Int32)], M1)) rfl ?_
    exact pm_irI rfl rfl
  · refine pm_irun 1 (σ' := (8, [some (.ref 0), some (.int a1), some (.int a2), some (.int a3), none], [.int a2], M1)) rfl ?_
    refine pm_icI (as := [.int a2]) (rest := []) rfl rfl rfl rfl (Nat.le_of_ble_eq_true rfl) rfl (fun r h => pm_Ev_mono (Nat.le_of_ble_eq_true rfl) (sC_isTime_ok a2 M1 r h)) (fun v4 M3 => ?_)
    show pm_Im _ _ _ _ _ _ (11, [some (.ref 0), some (.int a1), some (.int a2), some (.int a3), none], [.int v4], M3)
    refine pm_iite (σ1 := (21, [some (.ref 0), some (.int a1), some (.int a2), some (.int a3), none], [], M3)) (σ2 := (14, [some (.ref 0), some (.int a1), some (.int a2), some (.int a3), none], [], M3)) rfl (fun _ => ?_) (fun _ => ?_)
    · refine pm_irun 1 (σ' := (23, [some (.ref 0), some (.int a1), some (.int a2), some (.int a3), none], [.int (-2 : Int32)], M3)) rfl ?_
      exact pm_irI rfl rfl
    · refine pm_irun 1 (σ' := (15, [some (.ref 0), some (.int a1), some (.int a2), some (.int a3), none], [.int a3], M3)) rfl ?_
      refine pm_icI (as := [.int a3]) (rest := []) rfl rfl rfl rfl (Nat.le_of_ble_eq_true rfl) rfl (fun r h => pm_Ev_mono (Nat.le_of_ble_eq_true rfl) (sC_isTime_ok a3 M3 r h)) (fun v6 M5 => ?_)
      show pm_Im _ _ _ _ _ _ (18, [some (.ref 0), some (.int a1), some (.int a2), some (.int a3), none], [.int v6], M5)
      refine pm_iite (σ1 := (24, [some (.ref 0), some (.int a1), some (.int a2), some (.int a3), none], [], M5)) (σ2 := (21, [some (.ref 0), some (.int a1), some (.int a2), some (.int a3), none], [], M5)) rfl (fun _ => ?_) (fun _ => ?_)
      · refine pm_irun 4 (σ' := (32, [some (.ref 0), some (.int a1), some (.int a2), some (.int a3), none], [.int (5 : Int32), .int (M5.1 1 0)], M5)) rfl ?_
        refine pm_iite (σ1 := (38, [some (.ref 0), some (.int a1), some (.int a2), some (.int a3), none], [], M5)) (σ2 := (35, [some (.ref 0), some (.int a1), some (.int a2), some (.int a3), none], [], M5)) rfl (fun _ => ?_) (fun _ => ?_)
        · refine pm_irun 4 (σ' := (47, [some (.ref 0), some (.int a1), some (.int a2), some (.int a3), some (.int (M5.1 1 0))], [], M5)) rfl ?_
          refine pm_ilt (fun y => (47, [some (.ref 0), some (.int a1), some (.int a2), some (.int a3), some (.int y)], [], M5)) (fun x7 => ?_)
          refine pm_irun 6 (σ' := (57, [some (.ref 0), some (.int a1), some (.int a2), some (.int a3), some (.int x7)], [.int ((M5.1 1 0) + (1 : Int32)), .ref 1], M5)) rfl ?_
          refine pm_irun 1 (σ' := (60, [some (.ref 0), some (.int a1), some (.int a2), some (.int a3), some (.int x7)], [], (pm_sI M5 1 0 (((M5.1 1 0) + (1 : Int32)))))) rfl ?_
          refine pm_ilt (fun y => (60, [some (.ref 0), some (.int a1), some (.int a2), some (.int a3), some (.int x7)], [], y)) (fun M8 => ?_)
          refine pm_irun 5 (σ' := (70, [some (.ref 0), some (.int a1), some (.int a2), some (.int a3), some (.int x7)], [.int a1, .int x7, .ref 2], M8)) rfl ?_
          refine pm_igd (σ1 := (71, [some (.ref 0), some (.int a1), some (.int a2), some (.int a3), some (.int x7)], [], (pm_sI M8 2 x7.toNatClampNeg a1))) rfl (fun _ => ?_)
          refine pm_ilt (fun y => (71, [some (.ref 0), some (.int a1), some (.int a2), some (.int a3), some (.int x7)], [], y)) (fun M9 => ?_)
          refine pm_irun 5 (σ' := (81, [some (.ref 0), some (.int a1), some (.int a2), some (.int a3), some (.int x7)], [.int a2, .int x7, .ref 3], M9)) rfl ?_
          refine pm_igd (σ1 := (82, [some (.ref 0), some (.int a1), some (.int a2), some (.int a3), some (.int x7)], [], (pm_sI M9 3 x7.toNatClampNeg a2))) rfl (fun _ => ?_)
          refine pm_ilt (fun y => (82, [some (.ref 0), some (.int a1), some (.int a2), some (.int a3), some (.int x7)], [], y)) (fun M10 => ?_)
          refine pm_irun 7 (σ' := (94, [some (.ref 0), some (.int a1), some (.int a2), some (.int a3), some (.int x7)], [.int a3, .int ((5 : Int32) + x7), .ref 3], M10)) rfl ?_
          refine pm_igd (σ1 := (95, [some (.ref 0), some (.int a1), some (.int a2), some (.int a3), some (.int x7)], [], (pm_sI M10 3 ((5 : Int32) + x7).toNatClampNeg a3))) rfl (fun _ => ?_)
          refine pm_ilt (fun y => (95, [some (.ref 0), some (.int a1), some (.int a2), some (.int a3), some (.int x7)], [], y)) (fun M11 => ?_)
          refine pm_irun 1 (σ' := (96, [some (.ref 0), some (.int a1), some (.int a2), some (.int a3), some (.int x7)], [.ref 0], M11)) rfl ?_
          refine pm_icV (as := [.ref 0]) (rest := []) rfl rfl rfl rfl (Nat.le_of_ble_eq_true rfl) rfl (fun r h => pm_Ev_mono (Nat.le_of_ble_eq_true rfl) (sC_netTold_ok M11 r h)) (fun M12 => ?_)
          show pm_Im _ _ _ _ _ _ (99, [some (.ref 0), some (.int a1), some (.int a2), some (.int a3), some (.int x7)], [], M12)
          refine pm_irun 1 (σ' := (101, [some (.ref 0), some (.int a1), some (.int a2), some (.int a3), some (.int x7)], [.int x7], M12)) rfl ?_
          exact pm_irI rfl rfl
        · refine pm_irun 1 (σ' := (37, [some (.ref 0), some (.int a1), some (.int a2), some (.int a3), none], [.int (-4 : Int32)], M5)) rfl ?_
          exact pm_irI rfl rfl
      · refine pm_irun 1 (σ' := (23, [some (.ref 0), some (.int a1), some (.int a2), some (.int a3), none], [.int (-2 : Int32)], M5)) rfl ?_
        exact pm_irI rfl rfl
def sR_in (a1 : Int64) (a2 : Int64) (a3 : Int64) (M : pm_M) : Option (Int32 × pm_M) := if (lg_cmp a1 a2) < 0 then (some ((0 : Int32), M)) else (if 0 < (lg_cmp a1 a3) then (some ((0 : Int32), M)) else (some ((1 : Int32), M)))
abbrev I_R_in (sh : Option (Int32 × pm_M)) (σ : pm_St) : Prop := pm_Im none (pm_Ev 0) pm_T120 (some .boolean) pm_rI sh σ
set_option maxHeartbeats 4000000 in
set_option maxRecDepth 100000 in
theorem sR_in_ok (a1 : Int64) (a2 : Int64) (a3 : Int64) (M : pm_M) : ∀ r, sR_in a1 a2 a3 M = some r → pm_Ev 1 120 [.long a1, .long a2, .long a3] M (pm_rI r).1 (pm_rI r).2 := by
  refine pm_meth (al := [some (.long a1), none, some (.long a2), none, some (.long a3), none]) rfl rfl rfl rfl rfl ?_
  unfold sR_in
  show I_R_in _ (0, [some (.long a1), none, some (.long a2), none, some (.long a3), none], [], M)
  refine pm_irun 3 (σ' := (3, [some (.long a1), none, some (.long a2), none, some (.long a3), none], [.int (lg_cmp a1 a2)], M)) rfl ?_
  refine pm_iite (σ1 := (17, [some (.long a1), none, some (.long a2), none, some (.long a3), none], [], M)) (σ2 := (6, [some (.long a1), none, some (.long a2), none, some (.long a3), none], [], M)) rfl (fun _ => ?_) (fun _ => ?_)
  · refine pm_irun 1 (σ' := (18, [some (.long a1), none, some (.long a2), none, some (.long a3), none], [.int (0 : Int32)], M)) rfl ?_
    exact pm_irZ (Or.inl rfl) rfl rfl
  · refine pm_irun 3 (σ' := (10, [some (.long a1), none, some (.long a2), none, some (.long a3), none], [.int (lg_cmp a1 a3)], M)) rfl ?_
    refine pm_iite (σ1 := (17, [some (.long a1), none, some (.long a2), none, some (.long a3), none], [], M)) (σ2 := (13, [some (.long a1), none, some (.long a2), none, some (.long a3), none], [], M)) rfl (fun _ => ?_) (fun _ => ?_)
    · refine pm_irun 1 (σ' := (18, [some (.long a1), none, some (.long a2), none, some (.long a3), none], [.int (0 : Int32)], M)) rfl ?_
      exact pm_irZ (Or.inl rfl) rfl rfl
    · refine pm_irun 2 (σ' := (18, [some (.long a1), none, some (.long a2), none, some (.long a3), none], [.int (1 : Int32)], M)) rfl ?_
      exact pm_irZ (Or.inr rfl) rfl rfl
def sR_ends  (M : pm_M) : Option (pm_M) := pm_lt (pm_sI M 49 22 (0 : Int32)) fun M1 => pm_lt (pm_sI M1 49 23 (0 : Int32)) fun M2 => pm_loop (fun _ _ => none) (fun (g3 : Int32 → pm_M → Option (pm_M)) x5 M4 => if (5 : Int32) ≤ x5 then (some M4) else (if pm_in x5 5 then (pm_lt (pm_sI M4 66 x5.toNatClampNeg (0 : Int32)) fun M6 => if pm_in x5 10 then (pm_lt (pm_sI M6 69 x5.toNatClampNeg (0 : Int32)) fun M7 => if pm_in ((5 : Int32) + x5) 10 then (pm_lt (pm_sI M7 69 ((5 : Int32) + x5).toNatClampNeg (0 : Int32)) fun M8 => pm_lt ((x5 + (1 : Int32))) fun x9 => g3 x9 M8) else none) else none) else none)) 1000000 (0 : Int32) M2
abbrev I_R_ends (sh : Option (pm_M)) (σ : pm_St) : Prop := pm_Im none (pm_Ev 0) pm_T177 none pm_rV sh σ
set_option maxHeartbeats 4000000 in
set_option maxRecDepth 100000 in
theorem sR_ends_ok  (M : pm_M) : ∀ r, sR_ends  M = some r → pm_Ev 1 177 [.ref 49] M (pm_rV r).1 (pm_rV r).2 := by
  refine pm_meth (al := [some (.ref 49), none]) rfl rfl rfl rfl rfl ?_
  unfold sR_ends
  show I_R_ends _ (0, [some (.ref 49), none], [], M)
  refine pm_irun 2 (σ' := (2, [some (.ref 49), none], [.int (0 : Int32), .ref 49], M)) rfl ?_
  refine pm_igt (c := (0 : Int32) = 0 ∨ (0 : Int32) = 1) (σ1 := (5, [some (.ref 49), none], [], (pm_sI M 49 22 (0 : Int32)))) (by decide) rfl ?_
  refine pm_ilt (fun y => (5, [some (.ref 49), none], [], y)) (fun M1 => ?_)
  refine pm_irun 2 (σ' := (7, [some (.ref 49), none], [.int (0 : Int32), .ref 49], M1)) rfl ?_
  refine pm_irun 1 (σ' := (10, [some (.ref 49), none], [], (pm_sI M1 49 23 (0 : Int32)))) rfl ?_
  refine pm_ilt (fun y => (10, [some (.ref 49), none], [], y)) (fun M2 => ?_)
  refine pm_irun 2 (σ' := (12, [some (.ref 49), some (.int (0 : Int32))], [], M2)) rfl ?_
  refine pm_iloop (fun (g : Int32 → pm_M → Option (pm_M)) => ∀ (x5 : Int32) (M4 : pm_M), I_R_ends (g x5 M4) (12, [some (.ref 49), some (.int x5)], [], M4)) (fun _ _ => pm_inone) (fun g3 hg3 x5 M4 => ?_) 1000000 _ _
  show I_R_ends _ (12, [some (.ref 49), some (.int x5)], [], M4)
  refine pm_irun 2 (σ' := (14, [some (.ref 49), some (.int x5)], [.int (5 : Int32), .int x5], M4)) rfl ?_
  refine pm_iite (σ1 := (46, [some (.ref 49), some (.int x5)], [], M4)) (σ2 := (17, [some (.ref 49), some (.int x5)], [], M4)) rfl (fun _ => ?_) (fun _ => ?_)
  · exact pm_irV rfl rfl
  · refine pm_irun 4 (σ' := (23, [some (.ref 49), some (.int x5)], [.int (0 : Int32), .int x5, .ref 66], M4)) rfl ?_
    refine pm_igd (σ1 := (24, [some (.ref 49), some (.int x5)], [], (pm_sI M4 66 x5.toNatClampNeg (0 : Int32)))) rfl (fun _ => ?_)
    refine pm_ilt (fun y => (24, [some (.ref 49), some (.int x5)], [], y)) (fun M6 => ?_)
    refine pm_irun 4 (σ' := (30, [some (.ref 49), some (.int x5)], [.int (0 : Int32), .int x5, .ref 69], M6)) rfl ?_
    refine pm_igd (σ1 := (31, [some (.ref 49), some (.int x5)], [], (pm_sI M6 69 x5.toNatClampNeg (0 : Int32)))) rfl (fun _ => ?_)
    refine pm_ilt (fun y => (31, [some (.ref 49), some (.int x5)], [], y)) (fun M7 => ?_)
    refine pm_irun 6 (σ' := (39, [some (.ref 49), some (.int x5)], [.int (0 : Int32), .int ((5 : Int32) + x5), .ref 69], M7)) rfl ?_
    refine pm_igd (σ1 := (40, [some (.ref 49), some (.int x5)], [], (pm_sI M7 69 ((5 : Int32) + x5).toNatClampNeg (0 : Int32)))) rfl (fun _ => ?_)
    refine pm_ilt (fun y => (40, [some (.ref 49), some (.int x5)], [], y)) (fun M8 => ?_)
    refine pm_irun 1 (σ' := (43, [some (.ref 49), some (.int (x5 + (1 : Int32)))], [], M8)) rfl ?_
    refine pm_ilt (fun y => (43, [some (.ref 49), some (.int y)], [], M8)) (fun x9 => ?_)
    refine pm_irun 1 (σ' := (12, [some (.ref 49), some (.int x9)], [], M8)) rfl ?_
    exact hg3 _ _
def sR_routeAt (a1 : Int32) (a2 : Int32) (a3 : Int32) (M : pm_M) : Option (Int32 × pm_M) := some (((((25 : Int32) * a1) + ((5 : Int32) * a2)) + a3), M)
abbrev I_R_routeAt (sh : Option (Int32 × pm_M)) (σ : pm_St) : Prop := pm_Im none (pm_Ev 0) pm_T123 (some .int) pm_rI sh σ
set_option maxHeartbeats 4000000 in
set_option maxRecDepth 100000 in
theorem sR_routeAt_ok (a1 : Int32) (a2 : Int32) (a3 : Int32) (M : pm_M) : ∀ r, sR_routeAt a1 a2 a3 M = some r → pm_Ev 1 123 [.int a1, .int a2, .int a3] M (pm_rI r).1 (pm_rI r).2 := by
  refine pm_meth (al := [some (.int a1), some (.int a2), some (.int a3)]) rfl rfl rfl rfl rfl ?_
  unfold sR_routeAt
  show I_R_routeAt _ (0, [some (.int a1), some (.int a2), some (.int a3)], [], M)
  refine pm_irun 8 (σ' := (9, [some (.int a1), some (.int a2), some (.int a3)], [.int a3, .int (((25 : Int32) * a1) + ((5 : Int32) * a2))], M)) rfl ?_
  refine pm_irun 1 (σ' := (10, [some (.int a1), some (.int a2), some (.int a3)], [.int ((((25 : Int32) * a1) + ((5 : Int32) * a2)) + a3)], M)) rfl ?_
  exact pm_irI rfl rfl
def sR_station (a1 : Int32) (a2 : Int32) (a3 : Int32) (M : pm_M) : Option (Int32 × pm_M) := pm_bd (sR_in (a1.toInt64) (0 : Int64) (3 : Int64) M) fun v2 M1 => if v2 = 0 then (some ((-2 : Int32), M1)) else (pm_bd (sR_in (a2.toInt64) (1 : Int64) (9 : Int64) M1) fun v4 M3 => if v4 = 0 then (some ((-2 : Int32), M3)) else (pm_bd (sR_in (a3.toInt64) (1 : Int64) (9 : Int64) M3) fun v6 M5 => if ¬ v6 = 0 then (if ¬ (M5.1 49 1) = (5 : Int32) then (if pm_in (M5.1 49 1) 5 then (pm_lt (pm_sI M5 50 (M5.1 49 1).toNatClampNeg a1) fun M7 => if pm_in (M7.1 49 1) 10 then (pm_lt (pm_sI M7 51 (M7.1 49 1).toNatClampNeg a2) fun M8 => if pm_in ((5 : Int32) + (M8.1 49 1)) 10 then (pm_lt (pm_sI M8 51 ((5 : Int32) + (M8.1 49 1)).toNatClampNeg a3) fun M9 => pm_loop (fun _ _ => none) (fun (g10 : Int32 → pm_M → Option (Int32 × pm_M)) x12 M11 => if (5 : Int32) ≤ x12 then (pm_lt (pm_sI M11 49 1 (((M11.1 49 1) + (1 : Int32)))) fun M13 => pm_bv (sR_ends M13) fun M14 => some (((M14.1 49 1) - (1 : Int32)), M14)) else (pm_loop (fun _ _ => none) (fun (g15 : Int32 → pm_M → Option (Int32 × pm_M)) x17 M16 => if (2 : Int32) ≤ x17 then (pm_lt ((x12 + (1 : Int32))) fun x18 => g10 x18 M16) else (pm_bd (sR_routeAt x17 x12 (M16.1 49 1) M16) fun v20 M19 => if pm_in v20 50 then (pm_lt (pm_sI M19 54 v20.toNatClampNeg (0 : Int32)) fun M21 => pm_bd (sR_routeAt x17 (M21.1 49 1) x12 M21) fun v23 M22 => if pm_in v23 50 then (pm_lt (pm_sI M22 54 v23.toNatClampNeg (0 : Int32)) fun M24 => pm_lt ((x17 + (1 : Int32))) fun x25 => g15 x25 M24) else none) else none)) 1000000 (0 : Int32) M11)) 1000000 (0 : Int32) M9) else none) else none) else none) else (some ((-4 : Int32), M5))) else (some ((-2 : Int32), M5))))
abbrev I_R_station (sh : Option (Int32 × pm_M)) (σ : pm_St) : Prop := pm_Im none (pm_Ev 1) pm_T124 (some .int) pm_rI sh σ
set_option maxHeartbeats 4000000 in
set_option maxRecDepth 100000 in
theorem sR_station_ok (a1 : Int32) (a2 : Int32) (a3 : Int32) (M : pm_M) : ∀ r, sR_station a1 a2 a3 M = some r → pm_Ev 2 124 [.ref 49, .int a1, .int a2, .int a3] M (pm_rI r).1 (pm_rI r).2 := by
  refine pm_meth (al := [some (.ref 49), some (.int a1), some (.int a2), some (.int a3), none, none]) rfl rfl rfl rfl rfl ?_
  unfold sR_station
  show I_R_station _ (0, [some (.ref 49), some (.int a1), some (.int a2), some (.int a3), none, none], [], M)
  refine pm_irun 4 (σ' := (6, [some (.ref 49), some (.int a1), some (.int a2), some (.int a3), none, none], [.long (3 : Int64), .long (0 : Int64), .long a1.toInt64], M)) rfl ?_
  refine pm_icI (as := [.long a1.toInt64, .long (0 : Int64), .long (3 : Int64)]) (rest := []) rfl rfl rfl rfl (Nat.le_of_ble_eq_true rfl) rfl (fun r h => pm_Ev_mono (Nat.le_of_ble_eq_true rfl) (sR_in_ok (a1.toInt64) (0 : Int64) (3 : Int64) M r h)) (fun v2 M1 => ?_)
  show pm_Im _ _ _ _ _ _ (9, [some (.ref 49), some (.int a1), some (.int a2), some (.int a3), none, none], [.int v2], M1)
  refine pm_iite (σ1 := (36, [some (.ref 49), some (.int a1), some (.int a2), some (.int a3), none, none], [], M1)) (σ2 := (12, [some (.ref 49), some (.int a1), some (.int a2), some (.int a3), none, none], [], M1)) rfl (fun _ => ?_) (fun _ => ?_)
  · refine pm_irun 1 (σ' := (38, [some (.ref 49), some (.int a1), some (.int a2), some (.int a3), none, none], [.int (-2 : Int32)], M1)) rfl ?_
    exact pm_irI rfl rfl
  · refine pm_irun 4 (σ' := (18, [some (.ref 49), some (.int a1), some (.int a2), some (.int a3), none, none], [.long (9 : Int64), .long (1 : Int64), .long a2.toInt64], M1)) rfl ?_
    refine pm_icI (as := [.long a2.toInt64, .long (1 : Int64), .long (9 : Int64)]) (rest := []) rfl rfl rfl rfl (Nat.le_of_ble_eq_true rfl) rfl (fun r h => pm_Ev_mono (Nat.le_of_ble_eq_true rfl) (sR_in_ok (a2.toInt64) (1 : Int64) (9 : Int64) M1 r h)) (fun v4 M3 => ?_)
    show pm_Im _ _ _ _ _ _ (21, [some (.ref 49), some (.int a1), some (.int a2), some (.int a3), none, none], [.int v4], M3)
    refine pm_iite (σ1 := (36, [some (.ref 49), some (.int a1), some (.int a2), some (.int a3), none, none], [], M3)) (σ2 := (24, [some (.ref 49), some (.int a1), some (.int a2), some (.int a3), none, none], [], M3)) rfl (fun _ => ?_) (fun _ => ?_)
    · refine pm_irun 1 (σ' := (38, [some (.ref 49), some (.int a1), some (.int a2), some (.int a3), none, none], [.int (-2 : Int32)], M3)) rfl ?_
      exact pm_irI rfl rfl
    · refine pm_irun 4 (σ' := (30, [some (.ref 49), some (.int a1), some (.int a2), some (.int a3), none, none], [.long (9 : Int64), .long (1 : Int64), .long a3.toInt64], M3)) rfl ?_
      refine pm_icI (as := [.long a3.toInt64, .long (1 : Int64), .long (9 : Int64)]) (rest := []) rfl rfl rfl rfl (Nat.le_of_ble_eq_true rfl) rfl (fun r h => pm_Ev_mono (Nat.le_of_ble_eq_true rfl) (sR_in_ok (a3.toInt64) (1 : Int64) (9 : Int64) M3 r h)) (fun v6 M5 => ?_)
      show pm_Im _ _ _ _ _ _ (33, [some (.ref 49), some (.int a1), some (.int a2), some (.int a3), none, none], [.int v6], M5)
      refine pm_iite (σ1 := (39, [some (.ref 49), some (.int a1), some (.int a2), some (.int a3), none, none], [], M5)) (σ2 := (36, [some (.ref 49), some (.int a1), some (.int a2), some (.int a3), none, none], [], M5)) rfl (fun _ => ?_) (fun _ => ?_)
      · refine pm_irun 3 (σ' := (44, [some (.ref 49), some (.int a1), some (.int a2), some (.int a3), none, none], [.int (5 : Int32), .int (M5.1 49 1)], M5)) rfl ?_
        refine pm_iite (σ1 := (50, [some (.ref 49), some (.int a1), some (.int a2), some (.int a3), none, none], [], M5)) (σ2 := (47, [some (.ref 49), some (.int a1), some (.int a2), some (.int a3), none, none], [], M5)) rfl (fun _ => ?_) (fun _ => ?_)
        · refine pm_irun 5 (σ' := (59, [some (.ref 49), some (.int a1), some (.int a2), some (.int a3), none, none], [.int a1, .int (M5.1 49 1), .ref 50], M5)) rfl ?_
          refine pm_igd (σ1 := (60, [some (.ref 49), some (.int a1), some (.int a2), some (.int a3), none, none], [], (pm_sI M5 50 (M5.1 49 1).toNatClampNeg a1))) rfl (fun _ => ?_)
          refine pm_ilt (fun y => (60, [some (.ref 49), some (.int a1), some (.int a2), some (.int a3), none, none], [], y)) (fun M7 => ?_)
          refine pm_irun 5 (σ' := (69, [some (.ref 49), some (.int a1), some (.int a2), some (.int a3), none, none], [.int a2, .int (M7.1 49 1), .ref 51], M7)) rfl ?_
          refine pm_igd (σ1 := (70, [some (.ref 49), some (.int a1), some (.int a2), some (.int a3), none, none], [], (pm_sI M7 51 (M7.1 49 1).toNatClampNeg a2))) rfl (fun _ => ?_)
          refine pm_ilt (fun y => (70, [some (.ref 49), some (.int a1), some (.int a2), some (.int a3), none, none], [], y)) (fun M8 => ?_)
          refine pm_irun 7 (σ' := (81, [some (.ref 49), some (.int a1), some (.int a2), some (.int a3), none, none], [.int a3, .int ((5 : Int32) + (M8.1 49 1)), .ref 51], M8)) rfl ?_
          refine pm_igd (σ1 := (82, [some (.ref 49), some (.int a1), some (.int a2), some (.int a3), none, none], [], (pm_sI M8 51 ((5 : Int32) + (M8.1 49 1)).toNatClampNeg a3))) rfl (fun _ => ?_)
          refine pm_ilt (fun y => (82, [some (.ref 49), some (.int a1), some (.int a2), some (.int a3), none, none], [], y)) (fun M9 => ?_)
          refine pm_irun 2 (σ' := (85, [some (.ref 49), some (.int a1), some (.int a2), some (.int a3), some (.int (0 : Int32)), none], [], M9)) rfl ?_
          refine pm_iwk (al' := [some (.ref 49), none, none, none, some (.int (0 : Int32)), none]) (pm_wkS (pm_wkN (pm_wkN (pm_wkN (pm_wkS (pm_wkS pm_wk0)))))) ?_
          refine pm_iloop (fun (g : Int32 → pm_M → Option (Int32 × pm_M)) => ∀ (x12 : Int32) (M11 : pm_M), I_R_station (g x12 M11) (85, [some (.ref 49), none, none, none, some (.int x12), none], [], M11)) (fun _ _ => pm_inone) (fun g10 hg10 x12 M11 => ?_) 1000000 _ _
          show I_R_station _ (85, [some (.ref 49), none, none, none, some (.int x12), none], [], M11)
          refine pm_irun 2 (σ' := (88, [some (.ref 49), none, none, none, some (.int x12), none], [.int (5 : Int32), .int x12], M11)) rfl ?_
          refine pm_iite (σ1 := (146, [some (.ref 49), none, none, none, some (.int x12), none], [], M11)) (σ2 := (91, [some (.ref 49), none, none, none, some (.int x12), none], [], M11)) rfl (fun _ => ?_) (fun _ => ?_)
          · refine pm_irun 5 (σ' := (153, [some (.ref 49), none, none, none, some (.int x12), none], [.int ((M11.1 49 1) + (1 : Int32)), .ref 49], M11)) rfl ?_
            refine pm_irun 1 (σ' := (156, [some (.ref 49), none, none, none, some (.int x12), none], [], (pm_sI M11 49 1 (((M11.1 49 1) + (1 : Int32)))))) rfl ?_
            refine pm_ilt (fun y => (156, [some (.ref 49), none, none, none, some (.int x12), none], [], y)) (fun M13 => ?_)
            refine pm_irun 1 (σ' := (157, [some (.ref 49), none, none, none, some (.int x12), none], [.ref 49], M13)) rfl ?_
            refine pm_icV (as := [.ref 49]) (rest := []) rfl rfl rfl rfl (Nat.le_of_ble_eq_true rfl) rfl (fun r h => pm_Ev_mono (Nat.le_of_ble_eq_true rfl) (sR_ends_ok M13 r h)) (fun M14 => ?_)
            show pm_Im _ _ _ _ _ _ (160, [some (.ref 49), none, none, none, some (.int x12), none], [], M14)
            refine pm_irun 4 (σ' := (166, [some (.ref 49), none, none, none, some (.int x12), none], [.int ((M14.1 49 1) - (1 : Int32))], M14)) rfl ?_
            exact pm_irI rfl rfl
          · refine pm_irun 2 (σ' := (94, [some (.ref 49), none, none, none, some (.int x12), some (.int (0 : Int32))], [], M11)) rfl ?_
            refine pm_iloop (fun (g : Int32 → pm_M → Option (Int32 × pm_M)) => ∀ (x17 : Int32) (M16 : pm_M), I_R_station (g x17 M16) (94, [some (.ref 49), none, none, none, some (.int x12), some (.int x17)], [], M16)) (fun _ _ => pm_inone) (fun g15 hg15 x17 M16 => ?_) 1000000 _ _
            show I_R_station _ (94, [some (.ref 49), none, none, none, some (.int x12), some (.int x17)], [], M16)
            refine pm_irun 2 (σ' := (97, [some (.ref 49), none, none, none, some (.int x12), some (.int x17)], [.int (2 : Int32), .int x17], M16)) rfl ?_
            refine pm_iite (σ1 := (140, [some (.ref 49), none, none, none, some (.int x12), some (.int x17)], [], M16)) (σ2 := (100, [some (.ref 49), none, none, none, some (.int x12), some (.int x17)], [], M16)) rfl (fun _ => ?_) (fun _ => ?_)
            · refine pm_irun 1 (σ' := (143, [some (.ref 49), none, none, none, some (.int (x12 + (1 : Int32))), some (.int x17)], [], M16)) rfl ?_
              refine pm_ilt (fun y => (143, [some (.ref 49), none, none, none, some (.int y), some (.int x17)], [], M16)) (fun x18 => ?_)
              refine pm_irun 1 (σ' := (85, [some (.ref 49), none, none, none, some (.int x18), some (.int x17)], [], M16)) rfl ?_
              refine pm_iwk (al' := [some (.ref 49), none, none, none, some (.int x18), none]) (pm_wkS (pm_wkS (pm_wkS (pm_wkS (pm_wkS (pm_wkN pm_wk0)))))) ?_
              exact hg10 _ _
            · refine pm_irun 6 (σ' := (112, [some (.ref 49), none, none, none, some (.int x12), some (.int x17)], [.int (M16.1 49 1), .int x12, .int x17, .ref 54], M16)) rfl ?_
              refine pm_icI (as := [.int x17, .int x12, .int (M16.1 49 1)]) (rest := [.ref 54]) rfl rfl rfl rfl (Nat.le_of_ble_eq_true rfl) rfl (fun r h => pm_Ev_mono (Nat.le_of_ble_eq_true rfl) (sR_routeAt_ok x17 x12 (M16.1 49 1) M16 r h)) (fun v20 M19 => ?_)
              show pm_Im _ _ _ _ _ _ (115, [some (.ref 49), none, none, none, some (.int x12), some (.int x17)], [.int v20, .ref 54], M19)
              refine pm_irun 1 (σ' := (116, [some (.ref 49), none, none, none, some (.int x12), some (.int x17)], [.int (0 : Int32), .int v20, .ref 54], M19)) rfl ?_
              refine pm_igd (σ1 := (117, [some (.ref 49), none, none, none, some (.int x12), some (.int x17)], [], (pm_sI M19 54 v20.toNatClampNeg (0 : Int32)))) rfl (fun _ => ?_)
              refine pm_ilt (fun y => (117, [some (.ref 49), none, none, none, some (.int x12), some (.int x17)], [], y)) (fun M21 => ?_)
              refine pm_irun 6 (σ' := (129, [some (.ref 49), none, none, none, some (.int x12), some (.int x17)], [.int x12, .int (M21.1 49 1), .int x17, .ref 54], M21)) rfl ?_
              refine pm_icI (as := [.int x17, .int (M21.1 49 1), .int x12]) (rest := [.ref 54]) rfl rfl rfl rfl (Nat.le_of_ble_eq_true rfl) rfl (fun r h => pm_Ev_mono (Nat.le_of_ble_eq_true rfl) (sR_routeAt_ok x17 (M21.1 49 1) x12 M21 r h)) (fun v23 M22 => ?_)
              show pm_Im _ _ _ _ _ _ (132, [some (.ref 49), none, none, none, some (.int x12), some (.int x17)], [.int v23, .ref 54], M22)
              refine pm_irun 1 (σ' := (133, [some (.ref 49), none, none, none, some (.int x12), some (.int x17)], [.int (0 : Int32), .int v23, .ref 54], M22)) rfl ?_
              refine pm_igd (σ1 := (134, [some (.ref 49), none, none, none, some (.int x12), some (.int x17)], [], (pm_sI M22 54 v23.toNatClampNeg (0 : Int32)))) rfl (fun _ => ?_)
              refine pm_ilt (fun y => (134, [some (.ref 49), none, none, none, some (.int x12), some (.int x17)], [], y)) (fun M24 => ?_)
              refine pm_irun 1 (σ' := (137, [some (.ref 49), none, none, none, some (.int x12), some (.int (x17 + (1 : Int32)))], [], M24)) rfl ?_
              refine pm_ilt (fun y => (137, [some (.ref 49), none, none, none, some (.int x12), some (.int y)], [], M24)) (fun x25 => ?_)
              refine pm_irun 1 (σ' := (94, [some (.ref 49), none, none, none, some (.int x12), some (.int x25)], [], M24)) rfl ?_
              exact hg15 _ _
        · refine pm_irun 1 (σ' := (49, [some (.ref 49), some (.int a1), some (.int a2), some (.int a3), none, none], [.int (-4 : Int32)], M5)) rfl ?_
          exact pm_irI rfl rfl
      · refine pm_irun 1 (σ' := (38, [some (.ref 49), some (.int a1), some (.int a2), some (.int a3), none, none], [.int (-2 : Int32)], M5)) rfl ?_
        exact pm_irI rfl rfl
def sNet_hasStation_1 (a1 : Int32) (M : pm_M) : Option (Int32 × pm_M) := if a1 < 0 then (some ((0 : Int32), M)) else (if (M.1 1 0) ≤ a1 then (some ((0 : Int32), M)) else (some ((1 : Int32), M)))
abbrev I_Net_hasStation_1 (sh : Option (Int32 × pm_M)) (σ : pm_St) : Prop := pm_Im none (pm_Ev 0) pm_T1 (some .boolean) pm_rI sh σ
set_option maxHeartbeats 4000000 in
set_option maxRecDepth 100000 in
theorem sNet_hasStation_1_ok (a1 : Int32) (M : pm_M) : ∀ r, sNet_hasStation_1 a1 M = some r → pm_Ev 1 1 [.ref 1, .int a1] M (pm_rI r).1 (pm_rI r).2 := by
  refine pm_meth (al := [some (.ref 1), some (.int a1)]) rfl rfl rfl rfl rfl ?_
  unfold sNet_hasStation_1
  show I_Net_hasStation_1 _ (0, [some (.ref 1), some (.int a1)], [], M)
  refine pm_irun 1 (σ' := (1, [some (.ref 1), some (.int a1)], [.int a1], M)) rfl ?_
  refine pm_iite (σ1 := (16, [some (.ref 1), some (.int a1)], [], M)) (σ2 := (4, [some (.ref 1), some (.int a1)], [], M)) rfl (fun _ => ?_) (fun _ => ?_)
  · refine pm_irun 1 (σ' := (17, [some (.ref 1), some (.int a1)], [.int (0 : Int32)], M)) rfl ?_
    exact pm_irZ (Or.inl rfl) rfl rfl
  · refine pm_irun 3 (σ' := (9, [some (.ref 1), some (.int a1)], [.int (M.1 1 0), .int a1], M)) rfl ?_
    refine pm_iite (σ1 := (16, [some (.ref 1), some (.int a1)], [], M)) (σ2 := (12, [some (.ref 1), some (.int a1)], [], M)) rfl (fun _ => ?_) (fun _ => ?_)
    · refine pm_irun 1 (σ' := (17, [some (.ref 1), some (.int a1)], [.int (0 : Int32)], M)) rfl ?_
      exact pm_irZ (Or.inl rfl) rfl rfl
    · refine pm_irun 2 (σ' := (17, [some (.ref 1), some (.int a1)], [.int (1 : Int32)], M)) rfl ?_
      exact pm_irZ (Or.inr rfl) rfl rfl
def sC_isClass (a1 : Int32) (M : pm_M) : Option (Int32 × pm_M) := if a1 < 0 then (some ((0 : Int32), M)) else (if (2 : Int32) ≤ a1 then (some ((0 : Int32), M)) else (some ((1 : Int32), M)))
abbrev I_C_isClass (sh : Option (Int32 × pm_M)) (σ : pm_St) : Prop := pm_Im none (pm_Ev 0) pm_T95 (some .boolean) pm_rI sh σ
set_option maxHeartbeats 4000000 in
set_option maxRecDepth 100000 in
theorem sC_isClass_ok (a1 : Int32) (M : pm_M) : ∀ r, sC_isClass a1 M = some r → pm_Ev 1 95 [.int a1] M (pm_rI r).1 (pm_rI r).2 := by
  refine pm_meth (al := [some (.int a1)]) rfl rfl rfl rfl rfl ?_
  unfold sC_isClass
  show I_C_isClass _ (0, [some (.int a1)], [], M)
  refine pm_irun 1 (σ' := (1, [some (.int a1)], [.int a1], M)) rfl ?_
  refine pm_iite (σ1 := (13, [some (.int a1)], [], M)) (σ2 := (4, [some (.int a1)], [], M)) rfl (fun _ => ?_) (fun _ => ?_)
  · refine pm_irun 1 (σ' := (14, [some (.int a1)], [.int (0 : Int32)], M)) rfl ?_
    exact pm_irZ (Or.inl rfl) rfl rfl
  · refine pm_irun 2 (σ' := (6, [some (.int a1)], [.int (2 : Int32), .int a1], M)) rfl ?_
    refine pm_iite (σ1 := (13, [some (.int a1)], [], M)) (σ2 := (9, [some (.int a1)], [], M)) rfl (fun _ => ?_) (fun _ => ?_)
    · refine pm_irun 1 (σ' := (14, [some (.int a1)], [.int (0 : Int32)], M)) rfl ?_
      exact pm_irZ (Or.inl rfl) rfl rfl
    · refine pm_irun 2 (σ' := (14, [some (.int a1)], [.int (1 : Int32)], M)) rfl ?_
      exact pm_irZ (Or.inr rfl) rfl rfl
