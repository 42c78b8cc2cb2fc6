def sSheet_become_40 (a1 : Int32) (a2 : Int32) (M : pm_M) : Option (pm_M) := pm_lt (pm_sI M 40 0 a1) fun M1 => pm_lt (pm_sI M1 40 1 a2) fun M2 => pm_bv (sJArr_fillL_41 (0 : Int64) M2) fun M3 => some M3
abbrev I_Sheet_become_40 (sh : Option (pm_M)) (σ : pm_St) : Prop := pm_Im none (pm_Ev 1) pm_T8 none pm_rV sh σ
set_option maxHeartbeats 4000000 in
set_option maxRecDepth 100000 in
theorem sSheet_become_40_ok (a1 : Int32) (a2 : Int32) (M : pm_M) : ∀ r, sSheet_become_40 a1 a2 M = some r → pm_Ev 2 8 [.ref 40, .int a1, .int a2] M (pm_rV r).1 (pm_rV r).2 := by
  refine pm_meth (al := [some (.ref 40), some (.int a1), some (.int a2)]) rfl rfl rfl rfl rfl ?_
  unfold sSheet_become_40
  show I_Sheet_become_40 _ (0, [some (.ref 40), some (.int a1), some (.int a2)], [], M)
  refine pm_irun 2 (σ' := (2, [some (.ref 40), some (.int a1), some (.int a2)], [.int a1, .ref 40], M)) rfl ?_
  refine pm_irun 1 (σ' := (5, [some (.ref 40), some (.int a1), some (.int a2)], [], (pm_sI M 40 0 a1))) rfl ?_
  refine pm_ilt (fun y => (5, [some (.ref 40), some (.int a1), some (.int a2)], [], y)) (fun M1 => ?_)
  refine pm_irun 2 (σ' := (7, [some (.ref 40), some (.int a1), some (.int a2)], [.int a2, .ref 40], M1)) rfl ?_
  refine pm_irun 1 (σ' := (10, [some (.ref 40), some (.int a1), some (.int a2)], [], (pm_sI M1 40 1 a2))) rfl ?_
  refine pm_ilt (fun y => (10, [some (.ref 40), some (.int a1), some (.int a2)], [], y)) (fun M2 => ?_)
  refine pm_irun 3 (σ' := (15, [some (.ref 40), some (.int a1), some (.int a2)], [.long (0 : Int64), .ref 41], M2)) rfl ?_
  refine pm_icV (as := [.ref 41, .long (0 : Int64)]) (rest := []) rfl rfl rfl rfl (Nat.le_of_ble_eq_true rfl) rfl (fun r h => pm_Ev_mono (Nat.le_of_ble_eq_true rfl) (sJArr_fillL_41_ok (0 : Int64) M2 r h)) (fun M3 => ?_)
  show pm_Im _ _ _ _ _ _ (18, [some (.ref 40), some (.int a1), some (.int a2)], [], M3)
  exact pm_irV rfl rfl
def sSheet_store_40 (a1 : Int32) (a2 : Int64) (M : pm_M) : Option (pm_M) := if ¬ (M.1 40 0) = (1 : Int32) then (if ¬ (M.1 40 0) = (2 : Int32) then (if pm_in a1 40 then (pm_lt (pm_sL M 41 a1.toNatClampNeg a2) fun M1 => some M1) else none) else (if pm_in a1 40 then (pm_lt (pm_sL M 41 a1.toNatClampNeg (a2.toInt32.toInt16.toInt32.toInt64)) fun M2 => some M2) else none)) else (if pm_in a1 40 then (pm_lt (pm_sL M 41 a1.toNatClampNeg (a2.toInt32.toInt64)) fun M3 => some M3) else none)
abbrev I_Sheet_store_40 (sh : Option (pm_M)) (σ : pm_St) : Prop := pm_Im none (pm_Ev 0) pm_T12 none pm_rV sh σ
set_option maxHeartbeats 4000000 in
set_option maxRecDepth 100000 in
theorem sSheet_store_40_ok (a1 : Int32) (a2 : Int64) (M : pm_M) : ∀ r, sSheet_store_40 a1 a2 M = some r → pm_Ev 1 12 [.ref 40, .int a1, .long a2] M (pm_rV r).1 (pm_rV r).2 := by
  refine pm_meth (al := [some (.ref 40), some (.int a1), some (.long a2), none]) rfl rfl rfl rfl rfl ?_
  unfold sSheet_store_40
  show I_Sheet_store_40 _ (0, [some (.ref 40), some (.int a1), some (.long a2), none], [], M)
  refine pm_irun 3 (σ' := (5, [some (.ref 40), some (.int a1), some (.long a2), none], [.int (1 : Int32), .int (M.1 40 0)], M)) rfl ?_
  refine pm_iite (σ1 := (20, [some (.ref 40), some (.int a1), some (.long a2), none], [], M)) (σ2 := (8, [some (.ref 40), some (.int a1), some (.long a2), none], [], M)) rfl (fun _ => ?_) (fun _ => ?_)
  · refine pm_irun 3 (σ' := (25, [some (.ref 40), some (.int a1), some (.long a2), none], [.int (2 : Int32), .int (M.1 40 0)], M)) rfl ?_
    refine pm_iite (σ1 := (41, [some (.ref 40), some (.int a1), some (.long a2), none], [], M)) (σ2 := (28, [some (.ref 40), some (.int a1), some (.long a2), none], [], M)) rfl (fun _ => ?_) (fun _ => ?_)
    · refine pm_irun 4 (σ' := (47, [some (.ref 40), some (.int a1), some (.long a2), none], [.long a2, .int a1, .ref 41], M)) rfl ?_
      refine pm_igd (σ1 := (48, [some (.ref 40), some (.int a1), some (.long a2), none], [], (pm_sL M 41 a1.toNatClampNeg a2))) rfl (fun _ => ?_)
      refine pm_ilt (fun y => (48, [some (.ref 40), some (.int a1), some (.long a2), none], [], y)) (fun M1 => ?_)
      exact pm_irV rfl rfl
    · refine pm_irun 7 (σ' := (37, [some (.ref 40), some (.int a1), some (.long a2), none], [.long a2.toInt32.toInt16.toInt32.toInt64, .int a1, .ref 41], M)) rfl ?_
      refine pm_igd (σ1 := (38, [some (.ref 40), some (.int a1), some (.long a2), none], [], (pm_sL M 41 a1.toNatClampNeg (a2.toInt32.toInt16.toInt32.toInt64)))) rfl (fun _ => ?_)
      refine pm_ilt (fun y => (38, [some (.ref 40), some (.int a1), some (.long a2), none], [], y)) (fun M2 => ?_)
      refine pm_irun 1 (σ' := (48, [some (.ref 40), some (.int a1), some (.long a2), none], [], M2)) rfl ?_
      exact pm_irV rfl rfl
  · refine pm_irun 6 (σ' := (16, [some (.ref 40), some (.int a1), some (.long a2), none], [.long a2.toInt32.toInt64, .int a1, .ref 41], M)) rfl ?_
    refine pm_igd (σ1 := (17, [some (.ref 40), some (.int a1), some (.long a2), none], [], (pm_sL M 41 a1.toNatClampNeg (a2.toInt32.toInt64)))) rfl (fun _ => ?_)
    refine pm_ilt (fun y => (17, [some (.ref 40), some (.int a1), some (.long a2), none], [], y)) (fun M3 => ?_)
    refine pm_irun 1 (σ' := (48, [some (.ref 40), some (.int a1), some (.long a2), none], [], M3)) rfl ?_
    exact pm_irV rfl rfl
def sJArr_fillL_43 (a2 : Int64) (M : pm_M) : Option (pm_M) := pm_loop (fun _ _ => none) (fun (g1 : Int32 → pm_M → Option (pm_M)) x3 M2 => if (40 : Int32) ≤ x3 then (some M2) else (if pm_in x3 40 then (pm_lt (pm_sL M2 43 x3.toNatClampNeg a2) fun M4 => pm_lt ((x3 + (1 : Int32))) fun x5 => g1 x5 M4) else none)) 1000000 (0 : Int32) M
abbrev I_JArr_fillL_43 (sh : Option (pm_M)) (σ : pm_St) : Prop := pm_Im none (pm_Ev 0) pm_T207 none pm_rV sh σ
set_option maxHeartbeats 4000000 in
set_option maxRecDepth 100000 in
theorem sJArr_fillL_43_ok (a2 : Int64) (M : pm_M) : ∀ r, sJArr_fillL_43 a2 M = some r → pm_Ev 1 207 [.ref 43, .long a2] M (pm_rV r).1 (pm_rV r).2 := by
  refine pm_meth (al := [some (.ref 43), some (.long a2), none, none, none]) rfl rfl rfl rfl rfl ?_
  unfold sJArr_fillL_43
  show I_JArr_fillL_43 _ (0, [some (.ref 43), some (.long a2), none, none, none], [], M)
  refine pm_irun 2 (σ' := (2, [some (.ref 43), some (.long a2), none, some (.int (0 : Int32)), none], [], M)) rfl ?_
  refine pm_irun 3 (σ' := (6, [some (.ref 43), some (.long a2), none, some (.int (0 : Int32)), some (.int (40 : Int32))], [], M)) rfl ?_
  refine pm_iloop (fun (g : Int32 → pm_M → Option (pm_M)) => ∀ (x3 : Int32) (M2 : pm_M), I_JArr_fillL_43 (g x3 M2) (6, [some (.ref 43), some (.long a2), none, some (.int x3), some (.int (40 : Int32))], [], M2)) (fun _ _ => pm_inone) (fun g1 hg1 x3 M2 => ?_) 1000000 _ _
  show I_JArr_fillL_43 _ (6, [some (.ref 43), some (.long a2), none, some (.int x3), some (.int (40 : Int32))], [], M2)
  refine pm_irun 2 (σ' := (9, [some (.ref 43), some (.long a2), none, some (.int x3), some (.int (40 : Int32))], [.int (40 : Int32), .int x3], M2)) rfl ?_
  refine pm_iite (σ1 := (22, [some (.ref 43), some (.long a2), none, some (.int x3), some (.int (40 : Int32))], [], M2)) (σ2 := (12, [some (.ref 43), some (.long a2), none, some (.int x3), some (.int (40 : Int32))], [], M2)) rfl (fun _ => ?_) (fun _ => ?_)
  · exact pm_irV rfl rfl
  · refine pm_irun 3 (σ' := (15, [some (.ref 43), some (.long a2), none, some (.int x3), some (.int (40 : Int32))], [.long a2, .int x3, .ref 43], M2)) rfl ?_
    refine pm_igd (σ1 := (16, [some (.ref 43), some (.long a2), none, some (.int x3), some (.int (40 : Int32))], [], (pm_sL M2 43 x3.toNatClampNeg a2))) rfl (fun _ => ?_)
    refine pm_ilt (fun y => (16, [some (.ref 43), some (.long a2), none, some (.int x3), some (.int (40 : Int32))], [], y)) (fun M4 => ?_)
    refine pm_irun 1 (σ' := (19, [some (.ref 43), some (.long a2), none, some (.int (x3 + (1 : Int32))), some (.int (40 : Int32))], [], M4)) rfl ?_
    refine pm_ilt (fun y => (19, [some (.ref 43), some (.long a2), none, some (.int y), some (.int (40 : Int32))], [], M4)) (fun x5 => ?_)
    refine pm_irun 1 (σ' := (6, [some (.ref 43), some (.long a2), none, some (.int x5), some (.int (40 : Int32))], [], M4)) rfl ?_
    exact hg1 _ _
def sSheet_become_42 (a1 : Int32) (a2 : Int32) (M : pm_M) : Option (pm_M) := pm_lt (pm_sI M 42 0 a1) fun M1 => pm_lt (pm_sI M1 42 1 a2) fun M2 => pm_bv (sJArr_fillL_43 (0 : Int64) M2) fun M3 => some M3
abbrev I_Sheet_become_42 (sh : Option (pm_M)) (σ : pm_St) : Prop := pm_Im none (pm_Ev 1) pm_T8 none pm_rV sh σ
set_option maxHeartbeats 4000000 in
set_option maxRecDepth 100000 in
theorem sSheet_become_42_ok (a1 : Int32) (a2 : Int32) (M : pm_M) : ∀ r, sSheet_become_42 a1 a2 M = some r → pm_Ev 2 8 [.ref 42, .int a1, .int a2] M (pm_rV r).1 (pm_rV r).2 := by
  refine pm_meth (al := [some (.ref 42), some (.int a1), some (.int a2)]) rfl rfl rfl rfl rfl ?_
  unfold sSheet_become_42
  show I_Sheet_become_42 _ (0, [some (.ref 42), some (.int a1), some (.int a2)], [], M)
  refine pm_irun 2 (σ' := (2, [some (.ref 42), some (.int a1), some (.int a2)], [.int a1, .ref 42], M)) rfl ?_
  refine pm_irun 1 (σ' := (5, [some (.ref 42), some (.int a1), some (.int a2)], [], (pm_sI M 42 0 a1))) rfl ?_
  refine pm_ilt (fun y => (5, [some (.ref 42), some (.int a1), some (.int a2)], [], y)) (fun M1 => ?_)
  refine pm_irun 2 (σ' := (7, [some (.ref 42), some (.int a1), some (.int a2)], [.int a2, .ref 42], M1)) rfl ?_
  refine pm_irun 1 (σ' := (10, [some (.ref 42), some (.int a1), some (.int a2)], [], (pm_sI M1 42 1 a2))) rfl ?_
  refine pm_ilt (fun y => (10, [some (.ref 42), some (.int a1), some (.int a2)], [], y)) (fun M2 => ?_)
  refine pm_irun 3 (σ' := (15, [some (.ref 42), some (.int a1), some (.int a2)], [.long (0 : Int64), .ref 43], M2)) rfl ?_
  refine pm_icV (as := [.ref 43, .long (0 : Int64)]) (rest := []) rfl rfl rfl rfl (Nat.le_of_ble_eq_true rfl) rfl (fun r h => pm_Ev_mono (Nat.le_of_ble_eq_true rfl) (sJArr_fillL_43_ok (0 : Int64) M2 r h)) (fun M3 => ?_)
  show pm_Im _ _ _ _ _ _ (18, [some (.ref 42), some (.int a1), some (.int a2)], [], M3)
  exact pm_irV rfl rfl
def sSheet_store_42 (a1 : Int32) (a2 : Int64) (M : pm_M) : Option (pm_M) := if ¬ (M.1 42 0) = (1 : Int32) then (if ¬ (M.1 42 0) = (2 : Int32) then (if pm_in a1 40 then (pm_lt (pm_sL M 43 a1.toNatClampNeg a2) fun M1 => some M1) else none) else (if pm_in a1 40 then (pm_lt (pm_sL M 43 a1.toNatClampNeg (a2.toInt32.toInt16.toInt32.toInt64)) fun M2 => some M2) else none)) else (if pm_in a1 40 then (pm_lt (pm_sL M 43 a1.toNatClampNeg (a2.toInt32.toInt64)) fun M3 => some M3) else none)
abbrev I_Sheet_store_42 (sh : Option (pm_M)) (σ : pm_St) : Prop := pm_Im none (pm_Ev 0) pm_T12 none pm_rV sh σ
set_option maxHeartbeats 4000000 in
set_option maxRecDepth 100000 in
theorem sSheet_store_42_ok (a1 : Int32) (a2 : Int64) (M : pm_M) : ∀ r, sSheet_store_42 a1 a2 M = some r → pm_Ev 1 12 [.ref 42, .int a1, .long a2] M (pm_rV r).1 (pm_rV r).2 := by
  refine pm_meth (al := [some (.ref 42), some (.int a1), some (.long a2), none]) rfl rfl rfl rfl rfl ?_
  unfold sSheet_store_42
  show I_Sheet_store_42 _ (0, [some (.ref 42), some (.int a1), some (.long a2), none], [], M)
  refine pm_irun 3 (σ' := (5, [some (.ref 42), some (.int a1), some (.long a2), none], [.int (1 : Int32), .int (M.1 42 0)], M)) rfl ?_
  refine pm_iite (σ1 := (20, [some (.ref 42), some (.int a1), some (.long a2), none], [], M)) (σ2 := (8, [some (.ref 42), some (.int a1), some (.long a2), none], [], M)) rfl (fun _ => ?_) (fun _ => ?_)
  · refine pm_irun 3 (σ' := (25, [some (.ref 42), some (.int a1), some (.long a2), none], [.int (2 : Int32), .int (M.1 42 0)], M)) rfl ?_
    refine pm_iite (σ1 := (41, [some (.ref 42), some (.int a1), some (.long a2), none], [], M)) (σ2 := (28, [some (.ref 42), some (.int a1), some (.long a2), none], [], M)) rfl (fun _ => ?_) (fun _ => ?_)
    · refine pm_irun 4 (σ' := (47, [some (.ref 42), some (.int a1), some (.long a2), none], [.long a2, .int a1, .ref 43], M)) rfl ?_
      refine pm_igd (σ1 := (48, [some (.ref 42), some (.int a1), some (.long a2), none], [], (pm_sL M 43 a1.toNatClampNeg a2))) rfl (fun _ => ?_)
      refine pm_ilt (fun y => (48, [some (.ref 42), some (.int a1), some (.long a2), none], [], y)) (fun M1 => ?_)
      exact pm_irV rfl rfl
    · refine pm_irun 7 (σ' := (37, [some (.ref 42), some (.int a1), some (.long a2), none], [.long a2.toInt32.toInt16.toInt32.toInt64, .int a1, .ref 43], M)) rfl ?_
      refine pm_igd (σ1 := (38, [some (.ref 42), some (.int a1), some (.long a2), none], [], (pm_sL M 43 a1.toNatClampNeg (a2.toInt32.toInt16.toInt32.toInt64)))) rfl (fun _ => ?_)
      refine pm_ilt (fun y => (38, [some (.ref 42), some (.int a1), some (.long a2), none], [], y)) (fun M2 => ?_)
      refine pm_irun 1 (σ' := (48, [some (.ref 42), some (.int a1), some (.long a2), none], [], M2)) rfl ?_
      exact pm_irV rfl rfl
  · refine pm_irun 6 (σ' := (16, [some (.ref 42), some (.int a1), some (.long a2), none], [.long a2.toInt32.toInt64, .int a1, .ref 43], M)) rfl ?_
    refine pm_igd (σ1 := (17, [some (.ref 42), some (.int a1), some (.long a2), none], [], (pm_sL M 43 a1.toNatClampNeg (a2.toInt32.toInt64)))) rfl (fun _ => ?_)
    refine pm_ilt (fun y => (17, [some (.ref 42), some (.int a1), some (.long a2), none], [], y)) (fun M3 => ?_)
    refine pm_irun 1 (σ' := (48, [some (.ref 42), some (.int a1), some (.long a2), none], [], M3)) rfl ?_
    exact pm_irV rfl rfl
def sJArr_fillL_45 (a2 : Int64) (M : pm_M) : Option (pm_M) := pm_loop (fun _ _ => none) (fun (g1 : Int32 → pm_M → Option (pm_M)) x3 M2 => if (40 : Int32) ≤ x3 then (some M2) else (if pm_in x3 40 then (pm_lt (pm_sL M2 45 x3.toNatClampNeg a2) fun M4 => pm_lt ((x3 + (1 : Int32))) fun x5 => g1 x5 M4) else none)) 1000000 (0 : Int32) M
abbrev I_JArr_fillL_45 (sh : Option (pm_M)) (σ : pm_St) : Prop := pm_Im none (pm_Ev 0) pm_T207 none pm_rV sh σ
set_option maxHeartbeats 4000000 in
set_option maxRecDepth 100000 in
theorem sJArr_fillL_45_ok (a2 : Int64) (M : pm_M) : ∀ r, sJArr_fillL_45 a2 M = some r → pm_Ev 1 207 [.ref 45, .long a2] M (pm_rV r).1 (pm_rV r).2 := by
  refine pm_meth (al := [some (.ref 45), some (.long a2), none, none, none]) rfl rfl rfl rfl rfl ?_
  unfold sJArr_fillL_45
  show I_JArr_fillL_45 _ (0, [some (.ref 45), some (.long a2), none, none, none], [], M)
  refine pm_irun 2 (σ' := (2, [some (.ref 45), some (.long a2), none, some (.int (0 : Int32)), none], [], M)) rfl ?_
  refine pm_irun 3 (σ' := (6, [some (.ref 45), some (.long a2), none, some (.int (0 : Int32)), some (.int (40 : Int32))], [], M)) rfl ?_
  refine pm_iloop (fun (g : Int32 → pm_M → Option (pm_M)) => ∀ (x3 : Int32) (M2 : pm_M), I_JArr_fillL_45 (g x3 M2) (6, [some (.ref 45), some (.long a2), none, some (.int x3), some (.int (40 : Int32))], [], M2)) (fun _ _ => pm_inone) (fun g1 hg1 x3 M2 => ?_) 1000000 _ _
  show I_JArr_fillL_45 _ (6, [some (.ref 45), some (.long a2), none, some (.int x3), some (.int (40 : Int32))], [], M2)
  refine pm_irun 2 (σ' := (9, [some (.ref 45), some (.long a2), none, some (.int x3), some (.int (40 : Int32))], [.int (40 : Int32), .int x3], M2)) rfl ?_
  refine pm_iite (σ1 := (22, [some (.ref 45), some (.long a2), none, some (.int x3), some (.int (40 : Int32))], [], M2)) (σ2 := (12, [some (.ref 45), some (.long a2), none, some (.int x3), some (.int (40 : Int32))], [], M2)) rfl (fun _ => ?_) (fun _ => ?_)
  · exact pm_irV rfl rfl
  · refine pm_irun 3 (σ' := (15, [some (.ref 45), some (.long a2), none, some (.int x3), some (.int (40 : Int32))], [.long a2, .int x3, .ref 45], M2)) rfl ?_
    refine pm_igd (σ1 := (16, [some (.ref 45), some (.long a2), none, some (.int x3), some (.int (40 : Int32))], [], (pm_sL M2 45 x3.toNatClampNeg a2))) rfl (fun _ => ?_)
    refine pm_ilt (fun y => (16, [some (.ref 45), some (.long a2), none, some (.int x3), some (.int (40 : Int32))], [], y)) (fun M4 => ?_)
    refine pm_irun 1 (σ' := (19, [some (.ref 45), some (.long a2), none, some (.int (x3 + (1 : Int32))), some (.int (40 : Int32))], [], M4)) rfl ?_
    refine pm_ilt (fun y => (19, [some (.ref 45), some (.long a2), none, some (.int y), some (.int (40 : Int32))], [], M4)) (fun x5 => ?_)
    refine pm_irun 1 (σ' := (6, [some (.ref 45), some (.long a2), none, some (.int x5), some (.int (40 : Int32))], [], M4)) rfl ?_
    exact hg1 _ _
def sSheet_become_44 (a1 : Int32) (a2 : Int32) (M : pm_M) : Option (pm_M) := pm_lt (pm_sI M 44 0 a1) fun M1 => pm_lt (pm_sI M1 44 1 a2) fun M2 => pm_bv (sJArr_fillL_45 (0 : Int64) M2) fun M3 => some M3
abbrev I_Sheet_become_44 (sh : Option (pm_M)) (σ : pm_St) : Prop := pm_Im none (pm_Ev 1) pm_T8 none pm_rV sh σ
set_option maxHeartbeats 4000000 in
set_option maxRecDepth 100000 in
theorem sSheet_become_44_ok (a1 : Int32) (a2 : Int32) (M : pm_M) : ∀ r, sSheet_become_44 a1 a2 M = some r → pm_Ev 2 8 [.ref 44, .int a1, .int a2] M (pm_rV r).1 (pm_rV r).2 := by
  refine pm_meth (al := [some (.ref 44), some (.int a1), some (.int a2)]) rfl rfl rfl rfl rfl ?_
  unfold sSheet_become_44
  show I_Sheet_become_44 _ (0, [some (.ref 44), some (.int a1), some (.int a2)], [], M)
  refine pm_irun 2 (σ' := (2, [some (.ref 44), some (.int a1), some (.int a2)], [.int a1, .ref 44], M)) rfl ?_
  refine pm_irun 1 (σ' := (5, [some (.ref 44), some (.int a1), some (.int a2)], [], (pm_sI M 44 0 a1))) rfl ?_
  refine pm_ilt (fun y => (5, [some (.ref 44), some (.int a1), some (.int a2)], [], y)) (fun M1 => ?_)
  refine pm_irun 2 (σ' := (7, [some (.ref 44), some (.int a1), some (.int a2)], [.int a2, .ref 44], M1)) rfl ?_
  refine pm_irun 1 (σ' := (10, [some (.ref 44), some (.int a1), some (.int a2)], [], (pm_sI M1 44 1 a2))) rfl ?_
  refine pm_ilt (fun y => (10, [some (.ref 44), some (.int a1), some (.int a2)], [], y)) (fun M2 => ?_)
  refine pm_irun 3 (σ' := (15, [some (.ref 44), some (.int a1), some (.int a2)], [.long (0 : Int64), .ref 45], M2)) rfl ?_
  refine pm_icV (as := [.ref 45, .long (0 : Int64)]) (rest := []) rfl rfl rfl rfl (Nat.le_of_ble_eq_true rfl) rfl (fun r h => pm_Ev_mono (Nat.le_of_ble_eq_true rfl) (sJArr_fillL_45_ok (0 : Int64) M2 r h)) (fun M3 => ?_)
  show pm_Im _ _ _ _ _ _ (18, [some (.ref 44), some (.int a1), some (.int a2)], [], M3)
  exact pm_irV rfl rfl
def sSheet_store_44 (a1 : Int32) (a2 : Int64) (M : pm_M) : Option (pm_M) := if ¬ (M.1 44 0) = (1 : Int32) then (if ¬ (M.1 44 0) = (2 : Int32) then (if pm_in a1 40 then (pm_lt (pm_sL M 45 a1.toNatClampNeg a2) fun M1 => some M1) else none) else (if pm_in a1 40 then (pm_lt (pm_sL M 45 a1.toNatClampNeg (a2.toInt32.toInt16.toInt32.toInt64)) fun M2 => some M2) else none)) else (if pm_in a1 40 then (pm_lt (pm_sL M 45 a1.toNatClampNeg (a2.toInt32.toInt64)) fun M3 => some M3) else none)
abbrev I_Sheet_store_44 (sh : Option (pm_M)) (σ : pm_St) : Prop := pm_Im none (pm_Ev 0) pm_T12 none pm_rV sh σ
set_option maxHeartbeats 4000000 in
set_option maxRecDepth 100000 in
theorem sSheet_store_44_ok (a1 : Int32) (a2 : Int64) (M : pm_M) : ∀ r, sSheet_store_44 a1 a2 M = some r → pm_Ev 1 12 [.ref 44, .int a1, .long a2] M (pm_rV r).1 (pm_rV r).2 := by
  refine pm_meth (al := [some (.ref 44), some (.int a1), some (.long a2), none]) rfl rfl rfl rfl rfl ?_
  unfold sSheet_store_44
  show I_Sheet_store_44 _ (0, [some (.ref 44), some (.int a1), some (.long a2), none], [], M)
  refine pm_irun 3 (σ' := (5, [some (.ref 44), some (.int a1), some (.long a2), none], [.int (1 : Int32), .int (M.1 44 0)], M)) rfl ?_
  refine pm_iite (σ1 := (20, [some (.ref 44), some (.int a1), some (.long a2), none], [], M)) (σ2 := (8, [some (.ref 44), some (.int a1), some (.long a2), none], [], M)) rfl (fun _ => ?_) (fun _ => ?_)
  · refine pm_irun 3 (σ' := (25, [some (.ref 44), some (.int a1), some (.long a2), none], [.int (2 : Int32), .int (M.1 44 0)], M)) rfl ?_
    refine pm_iite (σ1 := (41, [some (.ref 44), some (.int a1), some (.long a2), none], [], M)) (σ2 := (28, [some (.ref 44), some (.int a1), some (.long a2), none], [], M)) rfl (fun _ => ?_) (fun _ => ?_)
    · refine pm_irun 4 (σ' := (47, [some (.ref 44), some (.int a1), some (.long a2), none], [.long a2, .int a1, .ref 45], M)) rfl ?_
      refine pm_igd (σ1 := (48, [some (.ref 44), some (.int a1), some (.long a2), none], [], (pm_sL M 45 a1.toNatClampNeg a2))) rfl (fun _ => ?_)
      refine pm_ilt (fun y => (48, [some (.ref 44), some (.int a1), some (.long a2), none], [], y)) (fun M1 => ?_)
      exact pm_irV rfl rfl
    · refine pm_irun 7 (σ' := (37, [some (.ref 44), some (.int a1), some (.long a2), none], [.long a2.toInt32.toInt16.toInt32.toInt64, .int a1, .ref 45], M)) rfl ?_
      refine pm_igd (σ1 := (38, [some (.ref 44), some (.int a1), some (.long a2), none], [], (pm_sL M 45 a1.toNatClampNeg (a2.toInt32.toInt16.toInt32.toInt64)))) rfl (fun _ => ?_)
      refine pm_ilt (fun y => (38, [some (.ref 44), some (.int a1), some (.long a2), none], [], y)) (fun M2 => ?_)
      refine pm_irun 1 (σ' := (48, [some (.ref 44), some (.int a1), some (.long a2), none], [], M2)) rfl ?_
      exact pm_irV rfl rfl
  · refine pm_irun 6 (σ' := (16, [some (.ref 44), some (.int a1), some (.long a2), none], [.long a2.toInt32.toInt64, .int a1, .ref 45], M)) rfl ?_
    refine pm_igd (σ1 := (17, [some (.ref 44), some (.int a1), some (.long a2), none], [], (pm_sL M 45 a1.toNatClampNeg (a2.toInt32.toInt64)))) rfl (fun _ => ?_)
    refine pm_ilt (fun y => (17, [some (.ref 44), some (.int a1), some (.long a2), none], [], y)) (fun M3 => ?_)
    refine pm_irun 1 (σ' := (48, [some (.ref 44), some (.int a1), some (.long a2), none], [], M3)) rfl ?_
    exact pm_irV rfl rfl
def sJArr_fillL_47 (a2 : Int64) (M : pm_M) : Option (pm_M) := pm_loop (fun _ _ => none) (fun (g1 : Int32 → pm_M → Option (pm_M)) x3 M2 => if (40 : Int32) ≤ x3 then (some M2) else (if pm_in x3 40 then (pm_lt (pm_sL M2 47 x3.toNatClampNeg a2) fun M4 => pm_lt ((x3 + (1 : Int32))) fun x5 => g1 x5 M4) else none)) 1000000 (0 : Int32) M
abbrev I_JArr_fillL_47 (sh : Option (pm_M)) (σ : pm_St) : Prop := pm_Im none (pm_Ev 0) pm_T207 none pm_rV sh σ
set_option maxHeartbeats 4000000 in
set_option maxRecDepth 100000 in
theorem sJArr_fillL_47_ok (a2 : Int64) (M : pm_M) : ∀ r, sJArr_fillL_47 a2 M = some r → pm_Ev 1 207 [.ref 47, .long a2] M (pm_rV r).1 (pm_rV r).2 := by
  refine pm_meth (al := [some (.ref 47), some (.long a2), none, none, none]) rfl rfl rfl rfl rfl ?_
  unfold sJArr_fillL_47
  show I_JArr_fillL_47 _ (0, [some (.ref 47), some (.long a2), none, none, none], [], M)
  refine pm_irun 2 (σ' := (2, [some (.ref 47), some (.long a2), none, some (.int (0 : Int32)), none], [], M)) rfl ?_
  refine pm_irun 3 (σ' := (6, [some (.ref 47), some (.long a2), none, some (.int (0 : Int32)), some (.int (40 : Int32))], [], M)) rfl ?_
  refine pm_iloop (fun (g : Int32 → pm_M → Option (pm_M)) => ∀ (x3 : Int32) (M2 : pm_M), I_JArr_fillL_47 (g x3 M2) (6, [some (.ref 47), some (.long a2), none, some (.int x3), some (.int (40 : Int32))], [], M2)) (fun _ _ => pm_inone) (fun g1 hg1 x3 M2 => ?_) 1000000 _ _
  show I_JArr_fillL_47 _ (6, [some (.ref 47), some (.long a2), none, some (.int x3), some (.int (40 : Int32))], [], M2)
  refine pm_irun 2 (σ' := (9, [some (.ref 47), some (.long a2), none, some (.int x3), some (.int (40 : Int32))], [.int (40 : Int32), .int x3], M2)) rfl ?_
  refine pm_iite (σ1 := (22, [some (.ref 47), some (.long a2), none, some (.int x3), some (.int (40 : Int32))], [], M2)) (σ2 := (12, [some (.ref 47), some (.long a2), none, some (.int x3), some (.int (40 : Int32))], [], M2)) rfl (fun _ => ?_) (fun _ => ?_)
  · exact pm_irV rfl rfl
  · refine pm_irun 3 (σ' := (15, [some (.ref 47), some (.long a2), none, some (.int x3), some (.int (40 : Int32))], [.long a2, .int x3, .ref 47], M2)) rfl ?_
    refine pm_igd (σ1 := (16, [some (.ref 47), some (.long a2), none, some (.int x3), some (.int (40 : Int32))], [], (pm_sL M2 47 x3.toNatClampNeg a2))) rfl (fun _ => ?_)
    refine pm_ilt (fun y => (16, [some (.ref 47), some (.long a2), none, some (.int x3), some (.int (40 : Int32))], [], y)) (fun M4 => ?_)
    refine pm_irun 1 (σ' := (19, [some (.ref 47), some (.long a2), none, some (.int (x3 + (1 : Int32))), some (.int (40 : Int32))], [], M4)) rfl ?_
    refine pm_ilt (fun y => (19, [some (.ref 47), some (.long a2), none, some (.int y), some (.int (40 : Int32))], [], M4)) (fun x5 => ?_)
    refine pm_irun 1 (σ' := (6, [some (.ref 47), some (.long a2), none, some (.int x5), some (.int (40 : Int32))], [], M4)) rfl ?_
    exact hg1 _ _
def sSheet_become_46 (a1 : Int32) (a2 : Int32) (M : pm_M) : Option (pm_M) := pm_lt (pm_sI M 46 0 a1) fun M1 => pm_lt (pm_sI M1 46 1 a2) fun M2 => pm_bv (sJArr_fillL_47 (0 : Int64) M2) fun M3 => some M3
abbrev I_Sheet_become_46 (sh : Option (pm_M)) (σ : pm_St) : Prop := pm_Im none (pm_Ev 1) pm_T8 none pm_rV sh σ
set_option maxHeartbeats 4000000 in
set_option maxRecDepth 100000 in
theorem sSheet_become_46_ok (a1 : Int32) (a2 : Int32) (M : pm_M) : ∀ r, sSheet_become_46 a1 a2 M = some r → pm_Ev 2 8 [.ref 46, .int a1, .int a2] M (pm_rV r).1 (pm_rV r).2 := by
  refine pm_meth (al := [some (.ref 46), some (.int a1), some (.int a2)]) rfl rfl rfl rfl rfl ?_
  unfold sSheet_become_46
  show I_Sheet_become_46 _ (0, [some (.ref 46), some (.int a1), some (.int a2)], [], M)
  refine pm_irun 2 (σ' := (2, [some (.ref 46), some (.int a1), some (.int a2)], [.int a1, .ref 46], M)) rfl ?_
  refine pm_irun 1 (σ' := (5, [some (.ref 46), some (.int a1), some (.int a2)], [], (pm_sI M 46 0 a1))) rfl ?_
  refine pm_ilt (fun y => (5, [some (.ref 46), some (.int a1), some (.int a2)], [], y)) (fun M1 => ?_)
  refine pm_irun 2 (σ' := (7, [some (.ref 46), some (.int a1), some (.int a2)], [.int a2, .ref 46], M1)) rfl ?_
  refine pm_irun 1 (σ' := (10, [some (.ref 46), some (.int a1), some (.int a2)], [], (pm_sI M1 46 1 a2))) rfl ?_
  refine pm_ilt (fun y => (10, [some (.ref 46), some (.int a1), some (.int a2)], [], y)) (fun M2 => ?_)
  refine pm_irun 3 (σ' := (15, [some (.ref 46), some (.int a1), some (.int a2)], [.long (0 : Int64), .ref 47], M2)) rfl ?_
  refine pm_icV (as := [.ref 47, .long (0 : Int64)]) (rest := []) rfl rfl rfl rfl (Nat.le_of_ble_eq_true rfl) rfl (fun r h => pm_Ev_mono (Nat.le_of_ble_eq_true rfl) (sJArr_fillL_47_ok (0 : Int64) M2 r h)) (fun M3 => ?_)
  show pm_Im _ _ _ _ _ _ (18, [some (.ref 46), some (.int a1), some (.int a2)], [], M3)
  exact pm_irV rfl rfl
def sSheet_store_46 (a1 : Int32) (a2 : Int64) (M : pm_M) : Option (pm_M) := if ¬ (M.1 46 0) = (1 : Int32) then (if ¬ (M.1 46 0) = (2 : Int32) then (if pm_in a1 40 then (pm_lt (pm_sL M 47 a1.toNatClampNeg a2) fun M1 => some M1) else none) else (if pm_in a1 40 then (pm_lt (pm_sL M 47 a1.toNatClampNeg (a2.toInt32.toInt16.toInt32.toInt64)) fun M2 => some M2) else none)) else (if pm_in a1 40 then (pm_lt (pm_sL M 47 a1.toNatClampNeg (a2.toInt32.toInt64)) fun M3 => some M3) else none)
abbrev I_Sheet_store_46 (sh : Option (pm_M)) (σ : pm_St) : Prop := pm_Im none (pm_Ev 0) pm_T12 none pm_rV sh σ
set_option maxHeartbeats 4000000 in
set_option maxRecDepth 100000 in
theorem sSheet_store_46_ok (a1 : Int32) (a2 : Int64) (M : pm_M) : ∀ r, sSheet_store_46 a1 a2 M = some r → pm_Ev 1 12 [.ref 46, .int a1, .long a2] M (pm_rV r).1 (pm_rV r).2 := by
  refine pm_meth (al := [some (.ref 46), some (.int a1), some (.long a2), none]) rfl rfl rfl rfl rfl ?_
  unfold sSheet_store_46
  show I_Sheet_store_46 _ (0, [some (.ref 46), some (.int a1), some (.long a2), none], [], M)
  refine pm_irun 3 (σ' := (5, [some (.ref 46), some (.int a1), some (.long a2), none], [.int (1 : Int32), .int (M.1 46 0)], M)) rfl ?_
  refine pm_iite (σ1 := (20, [some (.ref 46), some (.int a1), some (.long a2), none], [], M)) (σ2 := (8, [some (.ref 46), some (.int a1), some (.long a2), none], [], M)) rfl (fun _ => ?_) (fun _ => ?_)
  · refine pm_irun 3 (σ' := (25, [some (.ref 46), some (.int a1), some (.long a2), none], [.int (2 : Int32), .int (M.1 46 0)], M)) rfl ?_
    refine pm_iite (σ1 := (41, [some (.ref 46), some (.int a1), some (.long a2), none], [], M)) (σ2 := (28, [some (.ref 46), some (.int a1), some (.long a2), none], [], M)) rfl (fun _ => ?_) (fun _ => ?_)
    · refine pm_irun 4 (σ' := (47, [some (.ref 46), some (.int a1), some (.long a2), none], [.long a2, .int a1, .ref 47], M)) rfl ?_
      refine pm_igd (σ1 := (48, [some (.ref 46), some (.int a1), some (.long a2), none], [], (pm_sL M 47 a1.toNatClampNeg a2))) rfl (fun _ => ?_)
      refine pm_ilt (fun y => (48, [some (.ref 46), some (.int a1), some (.long a2), none], [], y)) (fun M1 => ?_)
      exact pm_irV rfl rfl
    · refine pm_irun 7 (σ' := (37, [some (.ref 46), some (.int a1), some (.long a2), none], [.long a2.toInt32.toInt16.toInt32.toInt64, .int a1, .ref 47], M)) rfl ?_
      refine pm_igd (σ1 := (38, [some (.ref 46), some (.int a1), some (.long a2), none], [], (pm_sL M 47 a1.toNatClampNeg (a2.toInt32.toInt16.toInt32.toInt64)))) rfl (fun _ => ?_)
      refine pm_ilt (fun y => (38, [some (.ref 46), some (.int a1), some (.long a2), none], [], y)) (fun M2 => ?_)
      refine pm_irun 1 (σ' := (48, [some (.ref 46), some (.int a1), some (.long a2), none], [], M2)) rfl ?_
      exact pm_irV rfl rfl
  · refine pm_irun 6 (σ' := (16, [some (.ref 46), some (.int a1), some (.long a2), none], [.long a2.toInt32.toInt64, .int a1, .ref 47], M)) rfl ?_
    refine pm_igd (σ1 := (17, [some (.ref 46), some (.int a1), some (.long a2), none], [], (pm_sL M 47 a1.toNatClampNeg (a2.toInt32.toInt64)))) rfl (fun _ => ?_)
    refine pm_ilt (fun y => (17, [some (.ref 46), some (.int a1), some (.long a2), none], [], y)) (fun M3 => ?_)
    refine pm_irun 1 (σ' := (48, [some (.ref 46), some (.int a1), some (.long a2), none], [], M3)) rfl ?_
    exact pm_irV rfl rfl
def sC_film (a1 : Int32) (M : pm_M) : Option (Int32 × pm_M) := pm_bd (sC_isSheet a1 M) fun v2 M1 => if ¬ v2 = 0 then (pm_bd (sTours_isSound M1) fun v4 M3 => if ¬ v4 = 0 then (if a1 = 0 then (pm_bv (sSheet_become_40 (1 : Int32) ((2 : Int32) * (M3.1 1 0)) M3) fun M5 => pm_loop (fun _ _ => none) (fun (g6 : Int32 → pm_M → Option (Int32 × pm_M)) x8 M7 => if (2 : Int32) ≤ x8 then (some ((M7.1 40 1), M7)) else (pm_loop (fun _ _ => none) (fun (g9 : Int32 → pm_M → Option (Int32 × pm_M)) x11 M10 => if (M10.1 1 0) ≤ x11 then (pm_lt ((x8 + (1 : Int32))) fun x12 => g6 x12 M10) else (pm_bd (sStates_likeliestAt x8 x11 M10) fun v14 M13 => pm_bv (sSheet_store_40 ((x8 * (M10.1 1 0)) + x11) (v14.toInt64) M13) fun M15 => pm_lt ((x11 + (1 : Int32))) fun x16 => g9 x16 M15)) 1000000 (0 : Int32) M7)) 1000000 (0 : Int32) M5) else if a1 = 1 then (pm_bv (sSheet_become_42 (1 : Int32) ((2 : Int32) * (M3.1 1 0)) M3) fun M17 => pm_loop (fun _ _ => none) (fun (g18 : Int32 → pm_M → Option (Int32 × pm_M)) x20 M19 => if (2 : Int32) ≤ x20 then (some ((M19.1 42 1), M19)) else (pm_loop (fun _ _ => none) (fun (g21 : Int32 → pm_M → Option (Int32 × pm_M)) x23 M22 => if (M22.1 1 0) ≤ x23 then (pm_lt ((x20 + (1 : Int32))) fun x24 => g18 x24 M22) else (pm_bd (sStates_likeliestAt x20 x23 M22) fun v26 M25 => pm_bv (sSheet_store_42 ((x20 * (M22.1 1 0)) + x23) (v26.toInt64) M25) fun M27 => pm_lt ((x23 + (1 : Int32))) fun x28 => g21 x28 M27)) 1000000 (0 : Int32) M19)) 1000000 (0 : Int32) M17) else if a1 = 2 then (pm_bv (sSheet_become_44 (1 : Int32) ((2 : Int32) * (M3.1 1 0)) M3) fun M29 => pm_loop (fun _ _ => none) (fun (g30 : Int32 → pm_M → Option (Int32 × pm_M)) x32 M31 => if (2 : Int32) ≤ x32 then (some ((M31.1 44 1), M31)) else (pm_loop (fun _ _ => none) (fun (g33 : Int32 → pm_M → Option (Int32 × pm_M)) x35 M34 => if (M34.1 1 0) ≤ x35 then (pm_lt ((x32 + (1 : Int32))) fun x36 => g30 x36 M34) else (pm_bd (sStates_likeliestAt x32 x35 M34) fun v38 M37 => pm_bv (sSheet_store_44 ((x32 * (M34.1 1 0)) + x35) (v38.toInt64) M37) fun M39 => pm_lt ((x35 + (1 : Int32))) fun x40 => g33 x40 M39)) 1000000 (0 : Int32) M31)) 1000000 (0 : Int32) M29) else if a1 = 3 then (pm_bv (sSheet_become_46 (1 : Int32) ((2 : Int32) * (M3.1 1 0)) M3) fun M41 => pm_loop (fun _ _ => none) (fun (g42 : Int32 → pm_M → Option (Int32 × pm_M)) x44 M43 => if (2 : Int32) ≤ x44 then (some ((M43.1 46 1), M43)) else (pm_loop (fun _ _ => none) (fun (g45 : Int32 → pm_M → Option (Int32 × pm_M)) x47 M46 => if (M46.1 1 0) ≤ x47 then (pm_lt ((x44 + (1 : Int32))) fun x48 => g42 x48 M46) else (pm_bd (sStates_likeliestAt x44 x47 M46) fun v50 M49 => pm_bv (sSheet_store_46 ((x44 * (M46.1 1 0)) + x47) (v50.toInt64) M49) fun M51 => pm_lt ((x47 + (1 : Int32))) fun x52 => g45 x52 M51)) 1000000 (0 : Int32) M43)) 1000000 (0 : Int32) M41) else none) else (some ((-3 : Int32), M3))) else (some ((-2 : Int32), M1))
abbrev I_C_film (sh : Option (Int32 × pm_M)) (σ : pm_St) : Prop := pm_Im none (pm_Ev 16) pm_T74 (some .int) pm_rI sh σ
set_option maxHeartbeats 4000000 in
set_option maxRecDepth 100000 in
theorem sC_film_ok (a1 : Int32) (M : pm_M) : ∀ r, sC_film a1 M = some r → pm_Ev 17 74 [.ref 0, .int a1] M (pm_rI r).1 (pm_rI r).2 := by
  refine pm_meth (al := [some (.ref 0), some (.int a1), none, none, none]) rfl rfl rfl rfl rfl ?_
  unfold sC_film
  show I_C_film _ (0, [some (.ref 0), some (.int a1), none, none, none], [], M)
  refine pm_irun 1 (σ' := (1, [some (.ref 0), some (.int a1), none, none, none], [.int a1], M)) rfl ?_
  refine pm_icI (as := [.int a1]) (rest := []) rfl rfl rfl rfl (Nat.le_of_ble_eq_true rfl) rfl (fun r h => pm_Ev_mono (Nat.le_of_ble_eq_true rfl) (sC_isSheet_ok a1 M r h)) (fun v2 M1 => ?_)
  show pm_Im _ _ _ _ _ _ (4, [some (.ref 0), some (.int a1), none, none, none], [.int v2], M1)
  refine pm_iite (σ1 := (10, [some (.ref 0), some (.int a1), none, none, none], [], M1)) (σ2 := (7, [some (.ref 0), some (.int a1), none, none, none], [], M1)) rfl (fun _ => ?_) (fun _ => ?_)
  · refine pm_irun 2 (σ' := (14, [some (.ref 0), some (.int a1), none, none, none], [.ref 15], M1)) rfl ?_
    refine pm_icI (as := [.ref 15]) (rest := []) rfl rfl rfl rfl (Nat.le_of_ble_eq_true rfl) rfl (fun r h => pm_Ev_mono (Nat.le_of_ble_eq_true rfl) (sTours_isSound_ok M1 r h)) (fun v4 M3 => ?_)
    show pm_Im _ _ _ _ _ _ (17, [some (.ref 0), some (.int a1), none, none, none], [.int v4], M3)
    refine pm_iite (σ1 := (23, [some (.ref 0), some (.int a1), none, none, none], [], M3)) (σ2 := (20, [some (.ref 0), some (.int a1), none, none, none], [], M3)) rfl (fun _ => ?_) (fun _ => ?_)
    · refine pm_irun 3 (σ' := (28, [some (.ref 0), some (.int a1), none, none, none], [.int a1, .ref 39], M3)) rfl ?_
      refine pm_iaal rfl ?_ ?_ ?_ ?_
      · show pm_Im _ _ _ _ _ _ (29, [some (.ref 0), some (.int a1), none, none, none], [.ref 40], M3)
        refine pm_irun 1 (σ' := (30, [some (.ref 0), some (.int a1), some (.ref 40), none, none], [], M3)) rfl ?_
        refine pm_irun 7 (σ' := (41, [some (.ref 0), some (.int a1), some (.ref 40), none, none], [.int ((2 : Int32) * (M3.1 1 0)), .int (1 : Int32), .ref 40], M3)) rfl ?_
        refine pm_icV (as := [.ref 40, .int (1 : Int32), .int ((2 : Int32) * (M3.1 1 0))]) (rest := []) rfl rfl rfl rfl (Nat.le_of_ble_eq_true rfl) rfl (fun r h => pm_Ev_mono (Nat.le_of_ble_eq_true rfl) (sSheet_become_40_ok (1 : Int32) ((2 : Int32) * (M3.1 1 0)) M3 r h)) (fun M5 => ?_)
        show pm_Im _ _ _ _ _ _ (44, [some (.ref 0), some (.int a1), some (.ref 40), none, none], [], M5)
        refine pm_irun 2 (σ' := (46, [some (.ref 0), some (.int a1), some (.ref 40), some (.int (0 : Int32)), none], [], M5)) rfl ?_
        refine pm_iwk (al' := [some (.ref 0), none, some (.ref 40), some (.int (0 : Int32)), none]) (pm_wkS (pm_wkN (pm_wkS (pm_wkS (pm_wkS pm_wk0))))) ?_
        refine pm_iloop (fun (g : Int32 → pm_M → Option (Int32 × pm_M)) => ∀ (x8 : Int32) (M7 : pm_M), I_C_film (g x8 M7) (46, [some (.ref 0), none, some (.ref 40), some (.int x8), none], [], M7)) (fun _ _ => pm_inone) (fun g6 hg6 x8 M7 => ?_) 1000000 _ _
        show I_C_film _ (46, [some (.ref 0), none, some (.ref 40), some (.int x8), none], [], M7)
        refine pm_irun 2 (σ' := (48, [some (.ref 0), none, some (.ref 40), some (.int x8), none], [.int (2 : Int32), .int x8], M7)) rfl ?_
        refine pm_iite (σ1 := (105, [some (.ref 0), none, some (.ref 40), some (.int x8), none], [], M7)) (σ2 := (51, [some (.ref 0), none, some (.ref 40), some (.int x8), none], [], M7)) rfl (fun _ => ?_) (fun _ => ?_)
        · refine pm_irun 2 (σ' := (109, [some (.ref 0), none, some (.ref 40), some (.int x8), none], [.int (M7.1 40 1)], M7)) rfl ?_
          exact pm_irI rfl rfl
        · refine pm_irun 2 (σ' := (54, [some (.ref 0), none, some (.ref 40), some (.int x8), some (.int (0 : Int32))], [], M7)) rfl ?_
          refine pm_iloop (fun (g : Int32 → pm_M → Option (Int32 × pm_M)) => ∀ (x11 : Int32) (M10 : pm_M), I_C_film (g x11 M10) (54, [some (.ref 0), none, some (.ref 40), some (.int x8), some (.int x11)], [], M10)) (fun _ _ => pm_inone) (fun g9 hg9 x11 M10 => ?_) 1000000 _ _
          show I_C_film _ (54, [some (.ref 0), none, some (.ref 40), some (.int x8), some (.int x11)], [], M10)
          refine pm_irun 4 (σ' := (63, [some (.ref 0), none, some (.ref 40), some (.int x8), some (.int x11)], [.int (M10.1 1 0), .int x11], M10)) rfl ?_
          refine pm_iite (σ1 := (99, [some (.ref 0), none, some (.ref 40), some (.int x8), some (.int x11)], [], M10)) (σ2 := (66, [some (.ref 0), none, some (.ref 40), some (.int x8), some (.int x11)], [], M10)) rfl (fun _ => ?_) (fun _ => ?_)
          · refine pm_irun 1 (σ' := (102, [some (.ref 0), none, some (.ref 40), some (.int (x8 + (1 : Int32))), some (.int x11)], [], M10)) rfl ?_
            refine pm_ilt (fun y => (102, [some (.ref 0), none, some (.ref 40), some (.int y), some (.int x11)], [], M10)) (fun x12 => ?_)
            refine pm_irun 1 (σ' := (46, [some (.ref 0), none, some (.ref 40), some (.int x12), some (.int x11)], [], M10)) rfl ?_
            refine pm_iwk (al' := [some (.ref 0), none, some (.ref 40), some (.int x12), none]) (pm_wkS (pm_wkS (pm_wkS (pm_wkS (pm_wkN pm_wk0))))) ?_
            exact hg6 _ _
          · refine pm_irun 8 (σ' := (79, [some (.ref 0), none, some (.ref 40), some (.int x8), some (.int x11)], [.int ((x8 * (M10.1 1 0)) + x11), .ref 40], M10)) rfl ?_
            refine pm_irun 4 (σ' := (86, [some (.ref 0), none, some (.ref 40), some (.int x8), some (.int x11)], [.int x11, .int x8, .ref 23, .int ((x8 * (M10.1 1 0)) + x11), .ref 40], M10)) rfl ?_
            refine pm_icI (as := [.ref 23, .int x8, .int x11]) (rest := [.int ((x8 * (M10.1 1 0)) + x11), .ref 40]) rfl rfl rfl rfl (Nat.le_of_ble_eq_true rfl) rfl (fun r h => pm_Ev_mono (Nat.le_of_ble_eq_true rfl) (sStates_likeliestAt_ok x8 x11 M10 r h)) (fun v14 M13 => ?_)
            show pm_Im _ _ _ _ _ _ (89, [some (.ref 0), none, some (.ref 40), some (.int x8), some (.int x11)], [.int v14, .int ((x8 * (M10.1 1 0)) + x11), .ref 40], M13)
            refine pm_irun 1 (σ' := (90, [some (.ref 0), none, some (.ref 40), some (.int x8), some (.int x11)], [.long v14.toInt64, .int ((x8 * (M10.1 1 0)) + x11), .ref 40], M13)) rfl ?_
            refine pm_icV (as := [.ref 40, .int ((x8 * (M10.1 1 0)) + x11), .long v14.toInt64]) (rest := []) rfl rfl rfl rfl (Nat.le_of_ble_eq_true rfl) rfl (fun r h => pm_Ev_mono (Nat.le_of_ble_eq_true rfl) (sSheet_store_40_ok ((x8 * (M10.1 1 0)) + x11) (v14.toInt64) M13 r h)) (fun M15 => ?_)
            show pm_Im _ _ _ _ _ _ (93, [some (.ref 0), none, some (.ref 40), some (.int x8), some (.int x11)], [], M15)
            refine pm_irun 1 (σ' := (96, [some (.ref 0), none, some (.ref 40), some (.int x8), some (.int (x11 + (1 : Int32)))], [], M15)) rfl ?_
            refine pm_ilt (fun y => (96, [some (.ref 0), none, some (.ref 40), some (.int x8), some (.int y)], [], M15)) (fun x16 => ?_)
            refine pm_irun 1 (σ' := (54, [some (.ref 0), none, some (.ref 40), some (.int x8), some (.int x16)], [], M15)) rfl ?_
            exact hg9 _ _
      · show pm_Im _ _ _ _ _ _ (29, [some (.ref 0), some (.int a1), none, none, none], [.ref 42], M3)
        refine pm_irun 1 (σ' := (30, [some (.ref 0), some (.int a1), some (.ref 42), none, none], [], M3)) rfl ?_
        refine pm_irun 7 (σ' := (41, [some (.ref 0), some (.int a1), some (.ref 42), none, none], [.int ((2 : Int32) * (M3.1 1 0)), .int (1 : Int32), .ref 42], M3)) rfl ?_
        refine pm_icV (as := [.ref 42, .int (1 : Int32), .int ((2 : Int32) * (M3.1 1 0))]) (rest := []) rfl rfl rfl rfl (Nat.le_of_ble_eq_true rfl) rfl (fun r h => pm_Ev_mono (Nat.le_of_ble_eq_true rfl) (sSheet_become_42_ok (1 : Int32) ((2 : Int32) * (M3.1 1 0)) M3 r h)) (fun M17 => ?_)
        show pm_Im _ _ _ _ _ _ (44, [some (.ref 0), some (.int a1), some (.ref 42), none, none], [], M17)
        refine pm_irun 2 (σ' := (46, [some (.ref 0), some (.int a1), some (.ref 42), some (.int (0 : Int32)), none], [], M17)) rfl ?_
        refine pm_iwk (al' := [some (.ref 0), none, some (.ref 42), some (.int (0 : Int32)), none]) (pm_wkS (pm_wkN (pm_wkS (pm_wkS (pm_wkS pm_wk0))))) ?_
        refine pm_iloop (fun (g : Int32 → pm_M → Option (Int32 × pm_M)) => ∀ (x20 : Int32) (M19 : pm_M), I_C_film (g x20 M19) (46, [some (.ref 0), none, some (.ref 42), some (.int x20), none], [], M19)) (fun _ _ => pm_inone) (fun g18 hg18 x20 M19 => ?_) 1000000 _ _
        show I_C_film _ (46, [some (.ref 0), none, some (.ref 42), some (.int x20), none], [], M19)
        refine pm_irun 2 (σ' := (48, [some (.ref 0), none, some (.ref 42), some (.int x20), none], [.int (2 : Int32), .int x20], M19)) rfl ?_
        refine pm_iite (σ1 := (105, [some (.ref 0), none, some (.ref 42), some (.int x20), none], [], M19)) (σ2 := (51, [some (.ref 0), none, some (.ref 42), some (.int x20), none], [], M19)) rfl (fun _ => ?_) (fun _ => ?_)
        · refine pm_irun 2 (σ' := (109, [some (.ref 0), none, some (.ref 42), some (.int x20), none], [.int (M19.1 42 1)], M19)) rfl ?_
          exact pm_irI rfl rfl
        · refine pm_irun 2 (σ' := (54, [some (.ref 0), none, some (.ref 42), some (.int x20), some (.int (0 : Int32))], [], M19)) rfl ?_
          refine pm_iloop (fun (g : Int32 → pm_M → Option (Int32 × pm_M)) => ∀ (x23 : Int32) (M22 : pm_M), I_C_film (g x23 M22) (54, [some (.ref 0), none, some (.ref 42), some (.int x20), some (.int x23)], [], M22)) (fun _ _ => pm_inone) (fun g21 hg21 x23 M22 => ?_) 1000000 _ _
          show I_C_film _ (54, [some (.ref 0), none, some (.ref 42), some (.int x20), some (.int x23)], [], M22)
          refine pm_irun 4 (σ' := (63, [some (.ref 0), none, some (.ref 42), some (.int x20), some (.int x23)], [.int (M22.1 1 0), .int x23], M22)) rfl ?_
          refine pm_iite (σ1 := (99, [some (.ref 0), none, some (.ref 42), some (.int x20), some (.int x23)], [], M22)) (σ2 := (66, [some (.ref 0), none, some (.ref 42), some (.int x20), some (.int x23)], [], M22)) rfl (fun _ => ?_) (fun _ => ?_)
          · refine pm_irun 1 (σ' := (102, [some (.ref 0), none, some (.ref 42), some (.int (x20 + (1 : Int32))), some (.int x23)], [], M22)) rfl ?_
            refine pm_ilt (fun y => (102, [some (.ref 0), none, some (.ref 42), some (.int y), some (.int x23)], [], M22)) (fun x24 => ?_)
            refine pm_irun 1 (σ' := (46, [some (.ref 0), none, some (.ref 42), some (.int x24), some (.int x23)], [], M22)) rfl ?_
            refine pm_iwk (al' := [some (.ref 0), none, some (.ref 42), some (.int x24), none]) (pm_wkS (pm_wkS (pm_wkS (pm_wkS (pm_wkN pm_wk0))))) ?_
            exact hg18 _ _
          · refine pm_irun 8 (σ' := (79, [some (.ref 0), none, some (.ref 42), some (.int x20), some (.int x23)], [.int ((x20 * (M22.1 1 0)) + x23), .ref 42], M22)) rfl ?_
            refine pm_irun 4 (σ' := (86, [some (.ref 0), none, some (.ref 42), some (.int x20), some (.int x23)], [.int x23, .int x20, .ref 23, .int ((x20 * (M22.1 1 0)) + x23), .ref 42], M22)) rfl ?_
            refine pm_icI (as := [.ref 23, .int x20, .int x23]) (rest := [.int ((x20 * (M22.1 1 0)) + x23), .ref 42]) rfl rfl rfl rfl (Nat.le_of_ble_eq_true rfl) rfl (fun r h => pm_Ev_mono (Nat.le_of_ble_eq_true rfl) (sStates_likeliestAt_ok x20 x23 M22 r h)) (fun v26 M25 => ?_)
            show pm_Im _ _ _ _ _ _ (89, [some (.ref 0), none, some (.ref 42), some (.int x20), some (.int x23)], [.int v26, .int ((x20 * (M22.1 1 0)) + x23), .ref 42], M25)
            refine pm_irun 1 (σ' := (90, [some (.ref 0), none, some (.ref 42), some (.int x20), some (.int x23)], [.long v26.toInt64, .int ((x20 * (M22.1 1 0)) + x23), .ref 42], M25)) rfl ?_
            refine pm_icV (as := [.ref 42, .int ((x20 * (M22.1 1 0)) + x23), .long v26.toInt64]) (rest := []) rfl rfl rfl rfl (Nat.le_of_ble_eq_true rfl) rfl (fun r h => pm_Ev_mono (Nat.le_of_ble_eq_true rfl) (sSheet_store_42_ok ((x20 * (M22.1 1 0)) + x23) (v26.toInt64) M25 r h)) (fun M27 => ?_)
            show pm_Im _ _ _ _ _ _ (93, [some (.ref 0), none, some (.ref 42), some (.int x20), some (.int x23)], [], M27)
            refine pm_irun 1 (σ' := (96, [some (.ref 0), none, some (.ref 42), some (.int x20), some (.int (x23 + (1 : Int32)))], [], M27)) rfl ?_
            refine pm_ilt (fun y => (96, [some (.ref 0), none, some (.ref 42), some (.int x20), some (.int y)], [], M27)) (fun x28 => ?_)
            refine pm_irun 1 (σ' := (54, [some (.ref 0), none, some (.ref 42), some (.int x20), some (.int x28)], [], M27)) rfl ?_
            exact hg21 _ _
      · show pm_Im _ _ _ _ _ _ (29, [some (.ref 0), some (.int a1), none, none, none], [.ref 44], M3)
        refine pm_irun 1 (σ' := (30, [some (.ref 0), some (.int a1), some (.ref 44), none, none], [], M3)) rfl ?_
        refine pm_irun 7 (σ' := (41, [some (.ref 0), some (.int a1), some (.ref 44), none, none], [.int ((2 : Int32) * (M3.1 1 0)), .int (1 : Int32), .ref 44], M3)) rfl ?_
        refine pm_icV (as := [.ref 44, .int (1 : Int32), .int ((2 : Int32) * (M3.1 1 0))]) (rest := []) rfl rfl rfl rfl (Nat.le_of_ble_eq_true rfl) rfl (fun r h => pm_Ev_mono (Nat.le_of_ble_eq_true rfl) (sSheet_become_44_ok (1 : Int32) ((2 : Int32) * (M3.1 1 0)) M3 r h)) (fun M29 => ?_)
        show pm_Im _ _ _ _ _ _ (44, [some (.ref 0), some (.int a1), some (.ref 44), none, none], [], M29)
        refine pm_irun 2 (σ' := (46, [some (.ref 0), some (.int a1), some (.ref 44), some (.int (0 : Int32)), none], [], M29)) rfl ?_
        refine pm_iwk (al' := [some (.ref 0), none, some (.ref 44), some (.int (0 : Int32)), none]) (pm_wkS (pm_wkN (pm_wkS (pm_wkS (pm_wkS pm_wk0))))) ?_
        refine pm_iloop (fun (g : Int32 → pm_M → Option (Int32 × pm_M)) => ∀ (x32 : Int32) (M31 : pm_M), I_C_film (g x32 M31) (46, [some (.ref 0), none, some (.ref 44), some (.int x32), none], [], M31)) (fun _ _ => pm_inone) (fun g30 hg30 x32 M31 => ?_) 1000000 _ _
        show I_C_film _ (46, [some (.ref 0), none, some (.ref 44), some (.int x32), none], [], M31)
        refine pm_irun 2 (σ' := (48, [some (.ref 0), none, some (.ref 44), some (.int x32), none], [.int (2 : Int32), .int x32], M31)) rfl ?_
        refine pm_iite (σ1 := (105, [some (.ref 0), none, some (.ref 44), some (.int x32), none], [], M31)) (σ2 := (51, [some (.ref 0), none, some (.ref 44), some (.int x32), none], [], M31)) rfl (fun _ => ?_) (fun _ => ?_)
        · refine pm_irun 2 (σ' := (109, [some (.ref 0), none, some (.ref 44), some (.int x32), none], [.int (M31.1 44 1)], M31)) rfl ?_
          exact pm_irI rfl rfl
        · refine pm_irun 2 (σ' := (54, [some (.ref 0), none, some (.ref 44), some (.int x32), some (.int (0 : Int32))], [], M31)) rfl ?_
          refine pm_iloop (fun (g : Int32 → pm_M → Option (Int32 × pm_M)) => ∀ (x35 : Int32) (M34 : pm_M), I_C_film (g x35 M34) (54, [some (.ref 0), none, some (.ref 44), some (.int x32), some (.int x35)], [], M34)) (fun _ _ => pm_inone) (fun g33 hg33 x35 M34 => ?_) 1000000 _ _
          show I_C_film _ (54, [some (.ref 0), none, some (.ref 44), some (.int x32), some (.int x35)], [], M34)
          refine pm_irun 4 (σ' := (63, [some (.ref 0), none, some (.ref 44), some (.int x32), some (.int x35)], [.int (M34.1 1 0), .int x35], M34)) rfl ?_
          refine pm_iite (σ1 := (99, [some (.ref 0), none, some (.ref 44), some (.int x32), some (.int x35)], [], M34)) (σ2 := (66, [some (.ref 0), none, some (.ref 44), some (.int x32), some (.int x35)], [], M34)) rfl (fun _ => ?_) (fun _ => ?_)
          · refine pm_irun 1 (σ' := (102, [some (.ref 0), none, some (.ref 44), some (.int (x32 + (1 : Int32))), some (.int x35)], [], M34)) rfl ?_
            refine pm_ilt (fun y => (102, [some (.ref 0), none, some (.ref 44), some (.int y), some (.int x35)], [], M34)) (fun x36 => ?_)
            refine pm_irun 1 (σ' := (46, [some (.ref 0), none, some (.ref 44), some (.int x36), some (.int x35)], [], M34)) rfl ?_
            refine pm_iwk (al' := [some (.ref 0), none, some (.ref 44), some (.int x36), none]) (pm_wkS (pm_wkS (pm_wkS (pm_wkS (pm_wkN pm_wk0))))) ?_
            exact hg30 _ _
          · refine pm_irun 8 (σ' := (79, [some (.ref 0), none, some (.ref 44), some (.int x32), some (.int x35)], [.int ((x32 * (M34.1 1 0)) + x35), .ref 44], M34)) rfl ?_
            refine pm_irun 4 (σ' := (86, [some (.ref 0), none, some (.ref 44), some (.int x32), some (.int x35)], [.int x35, .int x32, .ref 23, .int ((x32 * (M34.1 1 0)) + x35), .ref 44], M34)) rfl ?_
            refine pm_icI (as := [.ref 23, .int x32, .int x35]) (rest := [.int ((x32 * (M34.1 1 0)) + x35), .ref 44]) rfl rfl rfl rfl (Nat.le_of_ble_eq_true rfl) rfl (fun r h => pm_Ev_mono (Nat.le_of_ble_eq_true rfl) (sStates_likeliestAt_ok x32 x35 M34 r h)) (fun v38 M37 => ?_)
            show pm_Im _ _ _ _ _ _ (89, [some (.ref 0), none, some (.ref 44), some (.int x32), some (.int x35)], [.int v38, .int ((x32 * (M34.1 1 0)) + x35), .ref 44], M37)
            refine pm_irun 1 (σ' := (90, [some (.ref 0), none, some (.ref 44), some (.int x32), some (.int x35)], [.long v38.toInt64, .int ((x32 * (M34.1 1 0)) + x35), .ref 44], M37)) rfl ?_
            refine pm_icV (as := [.ref 44, .int ((x32 * (M34.1 1 0)) + x35), .long v38.toInt64]) (rest := []) rfl rfl rfl rfl (Nat.le_of_ble_eq_true rfl) rfl (fun r h => pm_Ev_mono (Nat.le_of_ble_eq_true rfl) (sSheet_store_44_ok ((x32 * (M34.1 1 0)) + x35) (v38.toInt64) M37 r h)) (fun M39 => ?_)
            show pm_Im _ _ _ _ _ _ (93, [some (.ref 0), none, some (.ref 44), some (.int x32), some (.int x35)], [], M39)
            refine pm_irun 1 (σ' := (96, [some (.ref 0), none, some (.ref 44), some (.int x32), some (.int (x35 + (1 : Int32)))], [], M39)) rfl ?_
            refine pm_ilt (fun y => (96, [some (.ref 0), none, some (.ref 44), some (.int x32), some (.int y)], [], M39)) (fun x40 => ?_)
            refine pm_irun 1 (σ' := (54, [some (.ref 0), none, some (.ref 44), some (.int x32), some (.int x40)], [], M39)) rfl ?_
            exact hg33 _ _
      · show pm_Im _ _ _ _ _ _ (29, [some (.ref 0), some (.int a1), none, none, none], [.ref 46], M3)
        refine pm_irun 1 (σ' := (30, [some (.ref 0), some (.int a1), some (.ref 46), none, none], [], M3)) rfl ?_
        refine pm_irun 7 (σ' := (41, [some (.ref 0), some (.int a1), some (.ref 46), none, none], [.int ((2 : Int32) * (M3.1 1 0)), .int (1 : Int32), .ref 46], M3)) rfl ?_
        refine pm_icV (as := [.ref 46, .int (1 : Int32), .int ((2 : Int32) * (M3.1 1 0))]) (rest := []) rfl rfl rfl rfl (Nat.le_of_ble_eq_true rfl) rfl (fun r h => pm_Ev_mono (Nat.le_of_ble_eq_true rfl) (sSheet_become_46_ok (1 : Int32) ((2 : Int32) * (M3.1 1 0)) M3 r h)) (fun M41 => ?_)
        show pm_Im _ _ _ _ _ _ (44, [some (.ref 0), some (.int a1), some (.ref 46), none, none], [], M41)
        refine pm_irun 2 (σ' := (46, [some (.ref 0), some (.int a1), some (.ref 46), some (.int (0 : Int32)), none], [], M41)) rfl ?_
        refine pm_iwk (al' := [some (.ref 0), none, some (.ref 46), some (.int (0 : Int32)), none]) (pm_wkS (pm_wkN (pm_wkS (pm_wkS (pm_wkS pm_wk0))))) ?_
        refine pm_iloop (fun (g : Int32 → pm_M → Option (Int32 × pm_M)) => ∀ (x44 : Int32) (M43 : pm_M), I_C_film (g x44 M43) (46, [some (.ref 0), none, some (.ref 46), some (.int x44), none], [], M43)) (fun _ _ => pm_inone) (fun g42 hg42 x44 M43 => ?_) 1000000 _ _
        show I_C_film _ (46, [some (.ref 0), none, some (.ref 46), some (.int x44), none], [], M43)
        refine pm_irun 2 (σ' := (48, [some (.ref 0), none, some (.ref 46), some (.int x44), none], [.int (2 : Int32), .int x44], M43)) rfl ?_
        refine pm_iite (σ1 := (105, [some (.ref 0), none, some (.ref 46), some (.int x44), none], [], M43)) (σ2 := (51, [some (.ref 0), none, some (.ref 46), some (.int x44), none], [], M43)) rfl (fun _ => ?_) (fun _ => ?_)
        · refine pm_irun 2 (σ' := (109, [some (.ref 0), none, some (.ref 46), some (.int x44), none], [.int (M43.1 46 1)], M43)) rfl ?_
          exact pm_irI rfl rfl
        · refine pm_irun 2 (σ' := (54, [some (.ref 0), none, some (.ref 46), some (.int x44), some (.int (0 : Int32))], [], M43)) rfl ?_
          refine pm_iloop (fun (g : Int32 → pm_M → Option (Int32 × pm_M)) => ∀ (x47 : Int32) (M46 : pm_M), I_C_film (g x47 M46) (54, [some (.ref 0), none, some (.ref 46), some (.int x44), some (.int x47)], [], M46)) (fun _ _ => pm_inone) (fun g45 hg45 x47 M46 => ?_) 1000000 _ _
          show I_C_film _ (54, [some (.ref 0), none, some (.ref 46), some (.int x44), some (.int x47)], [], M46)
          refine pm_irun 4 (σ' := (63, [some (.ref 0), none, some (.ref 46), some (.int x44), some (.int x47)], [.int (M46.1 1 0), .int x47], M46)) rfl ?_
          refine pm_iite (σ1 := (99, [some (.ref 0), none, some (.ref 46), some (.int x44), some (.int x47)], [], M46)) (σ2 := (66, [some (.ref 0), none, some (.ref 46), some (.int x44), some (.int x47)], [], M46)) rfl (fun _ => ?_) (fun _ => ?_)
          · refine pm_irun 1 (σ' := (102, [some (.ref 0), none, some (.ref 46), some (.int (x44 + (1 : Int32))), some (.int x47)], [], M46)) rfl ?_
            refine pm_ilt (fun y => (102, [some (.ref 0), none, some (.ref 46), some (.int y), some (.int x47)], [], M46)) (fun x48 => ?_)
            refine pm_irun 1 (σ' := (46, [some (.ref 0), none, some (.ref 46), some (.int x48), some (.int x47)], [], M46)) rfl ?_
            refine pm_iwk (al' := [some (.ref 0), none, some (.ref 46), some (.int x48), none]) (pm_wkS (pm_wkS (pm_wkS (pm_wkS (pm_wkN pm_wk0))))) ?_
            exact hg42 _ _
          · refine pm_irun 8 (σ' := (79, [some (.ref 0), none, some (.ref 46), some (.int x44), some (.int x47)], [.int ((x44 * (M46.1 1 0)) + x47), .ref 46], M46)) rfl ?_
            refine pm_irun 4 (σ' := (86, [some (.ref 0), none, some (.ref 46), some (.int x44), some (.int x47)], [.int x47, .int x44, .ref 23, .int ((x44 * (M46.1 1 0)) + x47), .ref 46], M46)) rfl ?_
            refine pm_icI (as := [.ref 23, .int x44, .int x47]) (rest := [.int ((x44 * (M46.1 1 0)) + x47), .ref 46]) rfl rfl rfl rfl (Nat.le_of_ble_eq_true rfl) rfl (fun r h => pm_Ev_mono (Nat.le_of_ble_eq_true rfl) (sStates_likeliestAt_ok x44 x47 M46 r h)) (fun v50 M49 => ?_)
            show pm_Im _ _ _ _ _ _ (89, [some (.ref 0), none, some (.ref 46), some (.int x44), some (.int x47)], [.int v50, .int ((x44 * (M46.1 1 0)) + x47), .ref 46], M49)
            refine pm_irun 1 (σ' := (90, [some (.ref 0), none, some (.ref 46), some (.int x44), some (.int x47)], [.long v50.toInt64, .int ((x44 * (M46.1 1 0)) + x47), .ref 46], M49)) rfl ?_
            refine pm_icV (as := [.ref 46, .int ((x44 * (M46.1 1 0)) + x47), .long v50.toInt64]) (rest := []) rfl rfl rfl rfl (Nat.le_of_ble_eq_true rfl) rfl (fun r h => pm_Ev_mono (Nat.le_of_ble_eq_true rfl) (sSheet_store_46_ok ((x44 * (M46.1 1 0)) + x47) (v50.toInt64) M49 r h)) (fun M51 => ?_)
            show pm_Im _ _ _ _ _ _ (93, [some (.ref 0), none, some (.ref 46), some (.int x44), some (.int x47)], [], M51)
            refine pm_irun 1 (σ' := (96, [some (.ref 0), none, some (.ref 46), some (.int x44), some (.int (x47 + (1 : Int32)))], [], M51)) rfl ?_
            refine pm_ilt (fun y => (96, [some (.ref 0), none, some (.ref 46), some (.int x44), some (.int y)], [], M51)) (fun x52 => ?_)
            refine pm_irun 1 (σ' := (54, [some (.ref 0), none, some (.ref 46), some (.int x44), some (.int x52)], [], M51)) rfl ?_
            exact hg45 _ _
    · refine pm_irun 1 (σ' := (22, [some (.ref 0), some (.int a1), none, none, none], [.int (-3 : Int32)], M3)) rfl ?_
      exact pm_irI rfl rfl
  · refine pm_irun 1 (σ' := (9, [some (.ref 0), some (.int a1), none, none, none], [.int (-2 : Int32)], M1)) rfl ?_
    exact pm_irI rfl rfl
def sR_film (a1 : Int32) (M : pm_M) : Option (Int32 × pm_M) := pm_bd (sR_isSheet a1 M) fun v2 M1 => if ¬ v2 = 0 then (pm_bd (sR_isSound M1) fun v4 M3 => if ¬ v4 = 0 then (pm_bv (sR_likeliest M3) fun M5 => pm_loop (fun _ _ => none) (fun (g6 : Int32 → pm_M → Option (Int32 × pm_M)) x8 M7 => if (40 : Int32) ≤ x8 then (pm_loop (fun _ _ => none) (fun (g9 : Int32 → pm_M → Option (Int32 × pm_M)) x11 M10 => if (2 : Int32) ≤ x11 then (if pm_in a1 4 then (pm_lt (pm_sI M10 78 a1.toNatClampNeg (1 : Int32)) fun M12 => if pm_in a1 4 then (pm_lt (pm_sI M12 79 a1.toNatClampNeg (((2 : Int32) * (M12.1 49 1)))) fun M13 => some (((2 : Int32) * (M13.1 49 1)), M13)) else none) else none) else (pm_loop (fun _ _ => none) (fun (g14 : Int32 → pm_M → Option (Int32 × pm_M)) x16 M15 => if (M15.1 49 1) ≤ x16 then (pm_lt ((x11 + (1 : Int32))) fun x17 => g9 x17 M15) else (if pm_in (((5 : Int32) * x11) + x16) 10 then (if pm_in ((((40 : Int32) * a1) + ((M15.1 49 1) * x11)) + x16) 160 then (pm_lt (pm_sL M15 80 ((((40 : Int32) * a1) + ((M15.1 49 1) * x11)) + x16).toNatClampNeg ((M15.1 65 (((5 : Int32) * x11) + x16).toNatClampNeg).toInt64)) fun M18 => pm_lt ((x16 + (1 : Int32))) fun x19 => g14 x19 M18) else none) else none)) 1000000 (0 : Int32) M10)) 1000000 (0 : Int32) M7) else (if pm_in (((40 : Int32) * a1) + x8) 160 then (pm_lt (pm_sL M7 80 (((40 : Int32) * a1) + x8).toNatClampNeg (0 : Int64)) fun M20 => pm_lt ((x8 + (1 : Int32))) fun x21 => g6 x21 M20) else none)) 1000000 (0 : Int32) M5) else (some ((-3 : Int32), M3))) else (some ((-2 : Int32), M1))
abbrev I_R_film (sh : Option (Int32 × pm_M)) (σ : pm_St) : Prop := pm_Im none (pm_Ev 18) pm_T165 (some .int) pm_rI sh σ
set_option maxHeartbeats 4000000 in
set_option maxRecDepth 100000 in
theorem sR_film_ok (a1 : Int32) (M : pm_M) : ∀ r, sR_film a1 M = some r → pm_Ev 19 165 [.ref 49, .int a1] M (pm_rI r).1 (pm_rI r).2 := by
  refine pm_meth (al := [some (.ref 49), some (.int a1), none, none]) rfl rfl rfl rfl rfl ?_
  unfold sR_film
  show I_R_film _ (0, [some (.ref 49), some (.int a1), none, none], [], M)
  refine pm_irun 1 (σ' := (1, [some (.ref 49), some (.int a1), none, none], [.int a1], M)) rfl ?_
  refine pm_icI (as := [.int a1]) (rest := []) rfl rfl rfl rfl (Nat.le_of_ble_eq_true rfl) rfl (fun r h => pm_Ev_mono (Nat.le_of_ble_eq_true rfl) (sR_isSheet_ok a1 M r h)) (fun v2 M1 => ?_)
  show pm_Im _ _ _ _ _ _ (4, [some (.ref 49), some (.int a1), none, none], [.int v2], M1)
  refine pm_iite (σ1 := (10, [some (.ref 49), some (.int a1), none, none], [], M1)) (σ2 := (7, [some (.ref 49), some (.int a1), none, none], [], M1)) rfl (fun _ => ?_) (fun _ => ?_)
  · refine pm_irun 1 (σ' := (11, [some (.ref 49), some (.int a1), none, none], [.ref 49], M1)) rfl ?_
    refine pm_icI (as := [.ref 49]) (rest := []) rfl rfl rfl rfl (Nat.le_of_ble_eq_true rfl) rfl (fun r h => pm_Ev_mono (Nat.le_of_ble_eq_true rfl) (sR_isSound_ok M1 r h)) (fun v4 M3 => ?_)
    show pm_Im _ _ _ _ _ _ (14, [some (.ref 49), some (.int a1), none, none], [.int v4], M3)
    refine pm_iite (σ1 := (20, [some (.ref 49), some (.int a1), none, none], [], M3)) (σ2 := (17, [some (.ref 49), some (.int a1), none, none], [], M3)) rfl (fun _ => ?_) (fun _ => ?_)
    · refine pm_irun 1 (σ' := (21, [some (.ref 49), some (.int a1), none, none], [.ref 49], M3)) rfl ?_
      refine pm_icV (as := [.ref 49]) (rest := []) rfl rfl rfl rfl (Nat.le_of_ble_eq_true rfl) rfl (fun r h => pm_Ev_mono (Nat.le_of_ble_eq_true rfl) (sR_likeliest_ok M3 r h)) (fun M5 => ?_)
      show pm_Im _ _ _ _ _ _ (24, [some (.ref 49), some (.int a1), none, none], [], M5)
      refine pm_irun 2 (σ' := (26, [some (.ref 49), some (.int a1), some (.int (0 : Int32)), none], [], M5)) rfl ?_
      refine pm_iloop (fun (g : Int32 → pm_M → Option (Int32 × pm_M)) => ∀ (x8 : Int32) (M7 : pm_M), I_R_film (g x8 M7) (26, [some (.ref 49), some (.int a1), some (.int x8), none], [], M7)) (fun _ _ => pm_inone) (fun g6 hg6 x8 M7 => ?_) 1000000 _ _
      show I_R_film _ (26, [some (.ref 49), some (.int a1), some (.int x8), none], [], M7)
      refine pm_irun 2 (σ' := (29, [some (.ref 49), some (.int a1), some (.int x8), none], [.int (40 : Int32), .int x8], M7)) rfl ?_
      refine pm_iite (σ1 := (50, [some (.ref 49), some (.int a1), some (.int x8), none], [], M7)) (σ2 := (32, [some (.ref 49), some (.int a1), some (.int x8), none], [], M7)) rfl (fun _ => ?_) (fun _ => ?_)
      · refine pm_irun 2 (σ' := (52, [some (.ref 49), some (.int a1), some (.int (0 : Int32)), none], [], M7)) rfl ?_
        refine pm_iloop (fun (g : Int32 → pm_M → Option (Int32 × pm_M)) => ∀ (x11 : Int32) (M10 : pm_M), I_R_film (g x11 M10) (52, [some (.ref 49), some (.int a1), some (.int x11), none], [], M10)) (fun _ _ => pm_inone) (fun g9 hg9 x11 M10 => ?_) 1000000 _ _
        show I_R_film _ (52, [some (.ref 49), some (.int a1), some (.int x11), none], [], M10)
        refine pm_irun 2 (σ' := (54, [some (.ref 49), some (.int a1), some (.int x11), none], [.int (2 : Int32), .int x11], M10)) rfl ?_
        refine pm_iite (σ1 := (108, [some (.ref 49), some (.int a1), some (.int x11), none], [], M10)) (σ2 := (57, [some (.ref 49), some (.int a1), some (.int x11), none], [], M10)) rfl (fun _ => ?_) (fun _ => ?_)
        · refine pm_irun 4 (σ' := (114, [some (.ref 49), some (.int a1), some (.int x11), none], [.int (1 : Int32), .int a1, .ref 78], M10)) rfl ?_
          refine pm_igd (σ1 := (115, [some (.ref 49), some (.int a1), some (.int x11), none], [], (pm_sI M10 78 a1.toNatClampNeg (1 : Int32)))) rfl (fun _ => ?_)
          refine pm_ilt (fun y => (115, [some (.ref 49), some (.int a1), some (.int x11), none], [], y)) (fun M12 => ?_)
          refine pm_irun 7 (σ' := (126, [some (.ref 49), some (.int a1), some (.int x11), none], [.int ((2 : Int32) * (M12.1 49 1)), .int a1, .ref 79], M12)) rfl ?_
          refine pm_igd (σ1 := (127, [some (.ref 49), some (.int a1), some (.int x11), none], [], (pm_sI M12 79 a1.toNatClampNeg (((2 : Int32) * (M12.1 49 1)))))) rfl (fun _ => ?_)
          refine pm_ilt (fun y => (127, [some (.ref 49), some (.int a1), some (.int x11), none], [], y)) (fun M13 => ?_)
          refine pm_irun 4 (σ' := (133, [some (.ref 49), some (.int a1), some (.int x11), none], [.int ((2 : Int32) * (M13.1 49 1))], M13)) rfl ?_
          exact pm_irI rfl rfl
        · refine pm_irun 2 (σ' := (59, [some (.ref 49), some (.int a1), some (.int x11), some (.int (0 : Int32))], [], M10)) rfl ?_
          refine pm_iloop (fun (g : Int32 → pm_M → Option (Int32 × pm_M)) => ∀ (x16 : Int32) (M15 : pm_M), I_R_film (g x16 M15) (59, [some (.ref 49), some (.int a1), some (.int x11), some (.int x16)], [], M15)) (fun _ _ => pm_inone) (fun g14 hg14 x16 M15 => ?_) 1000000 _ _
          show I_R_film _ (59, [some (.ref 49), some (.int a1), some (.int x11), some (.int x16)], [], M15)
          refine pm_irun 3 (σ' := (64, [some (.ref 49), some (.int a1), some (.int x11), some (.int x16)], [.int (M15.1 49 1), .int x16], M15)) rfl ?_
          refine pm_iite (σ1 := (102, [some (.ref 49), some (.int a1), some (.int x11), some (.int x16)], [], M15)) (σ2 := (67, [some (.ref 49), some (.int a1), some (.int x11), some (.int x16)], [], M15)) rfl (fun _ => ?_) (fun _ => ?_)
          · refine pm_irun 1 (σ' := (105, [some (.ref 49), some (.int a1), some (.int (x11 + (1 : Int32))), some (.int x16)], [], M15)) rfl ?_
            refine pm_ilt (fun y => (105, [some (.ref 49), some (.int a1), some (.int y), some (.int x16)], [], M15)) (fun x17 => ?_)
            refine pm_irun 1 (σ' := (52, [some (.ref 49), some (.int a1), some (.int x17), some (.int x16)], [], M15)) rfl ?_
            refine pm_iwk (al' := [some (.ref 49), some (.int a1), some (.int x17), none]) (pm_wkS (pm_wkS (pm_wkS (pm_wkN pm_wk0)))) ?_
            exact hg9 _ _
          · refine pm_irun 8 (σ' := (80, [some (.ref 49), some (.int a1), some (.int x11), some (.int x16)], [.int x11, .int (M15.1 49 1), .int ((40 : Int32) * a1), .ref 80], M15)) rfl ?_
            refine pm_irun 8 (σ' := (90, [some (.ref 49), some (.int a1), some (.int x11), some (.int x16)], [.int x11, .int (5 : Int32), .ref 65, .int ((((40 : Int32) * a1) + ((M15.1 49 1) * x11)) + x16), .ref 80], M15)) rfl ?_
            refine pm_irun 3 (σ' := (93, [some (.ref 49), some (.int a1), some (.int x11), some (.int x16)], [.int (((5 : Int32) * x11) + x16), .ref 65, .int ((((40 : Int32) * a1) + ((M15.1 49 1) * x11)) + x16), .ref 80], M15)) rfl ?_
            refine pm_igd (σ1 := (94, [some (.ref 49), some (.int a1), some (.int x11), some (.int x16)], [.int (M15.1 65 (((5 : Int32) * x11) + x16).toNatClampNeg), .int ((((40 : Int32) * a1) + ((M15.1 49 1) * x11)) + x16), .ref 80], M15)) rfl (fun _ => ?_)
            refine pm_irun 1 (σ' := (95, [some (.ref 49), some (.int a1), some (.int x11), some (.int x16)], [.long (M15.1 65 (((5 : Int32) * x11) + x16).toNatClampNeg).toInt64, .int ((((40 : Int32) * a1) + ((M15.1 49 1) * x11)) + x16), .ref 80], M15)) rfl ?_
            refine pm_igd (σ1 := (96, [some (.ref 49), some (.int a1), some (.int x11), some (.int x16)], [], (pm_sL M15 80 ((((40 : Int32) * a1) + ((M15.1 49 1) * x11)) + x16).toNatClampNeg ((M15.1 65 (((5 : Int32) * x11) + x16).toNatClampNeg).toInt64)))) rfl (fun _ => ?_)
            refine pm_ilt (fun y => (96, [some (.ref 49), some (.int a1), some (.int x11), some (.int x16)], [], y)) (fun M18 => ?_)
            refine pm_irun 1 (σ' := (99, [some (.ref 49), some (.int a1), some (.int x11), some (.int (x16 + (1 : Int32)))], [], M18)) rfl ?_
            refine pm_ilt (fun y => (99, [some (.ref 49), some (.int a1), some (.int x11), some (.int y)], [], M18)) (fun x19 => ?_)
            refine pm_irun 1 (σ' := (59, [some (.ref 49), some (.int a1), some (.int x11), some (.int x19)], [], M18)) rfl ?_
            exact hg14 _ _
      · refine pm_irun 8 (σ' := (43, [some (.ref 49), some (.int a1), some (.int x8), none], [.long (0 : Int64), .int (((40 : Int32) * a1) + x8), .ref 80], M7)) rfl ?_
        refine pm_igd (σ1 := (44, [some (.ref 49), some (.int a1), some (.int x8), none], [], (pm_sL M7 80 (((40 : Int32) * a1) + x8).toNatClampNeg (0 : Int64)))) rfl (fun _ => ?_)
        refine pm_ilt (fun y => (44, [some (.ref 49), some (.int a1), some (.int x8), none], [], y)) (fun M20 => ?_)
        refine pm_irun 1 (σ' := (47, [some (.ref 49), some (.int a1), some (.int (x8 + (1 : Int32))), none], [], M20)) rfl ?_
        refine pm_ilt (fun y => (47, [some (.ref 49), some (.int a1), some (.int y), none], [], M20)) (fun x21 => ?_)
        refine pm_irun 1 (σ' := (26, [some (.ref 49), some (.int a1), some (.int x21), none], [], M20)) rfl ?_
        exact hg6 _ _
    · refine pm_irun 1 (σ' := (19, [some (.ref 49), some (.int a1), none, none], [.int (-3 : Int32)], M3)) rfl ?_
      exact pm_irI rfl rfl
  · refine pm_irun 1 (σ' := (9, [some (.ref 49), some (.int a1), none, none], [.int (-2 : Int32)], M1)) rfl ?_
    exact pm_irI rfl rfl
def sStates_oneLessAbove (a1 : Int32) (a2 : Int32) (a3 : Int32) (M : pm_M) : Option (Int64 × pm_M) := if ¬ a1 = 0 then (if a3 ≤ 0 then (some ((0 : Int64), M)) else (if pm_in (((a2 * (7 : Int32)) + a3) - (1 : Int32)) 49 then (some ((a3.toInt64 * (M.2 26 (((a2 * (7 : Int32)) + a3) - (1 : Int32)).toNatClampNeg)), M)) else none)) else (if a2 ≤ 0 then (some ((0 : Int64), M)) else (if pm_in (((a2 - (1 : Int32)) * (7 : Int32)) + a3) 49 then (some ((a2.toInt64 * (M.2 26 (((a2 - (1 : Int32)) * (7 : Int32)) + a3).toNatClampNeg)), M)) else none))
abbrev I_States_oneLessAbove (sh : Option (Int64 × pm_M)) (σ : pm_St) : Prop := pm_Im none (pm_Ev 0) pm_T18 (some .long) pm_rL sh σ
set_option maxHeartbeats 4000000 in
set_option maxRecDepth 100000 in
theorem sStates_oneLessAbove_ok (a1 : Int32) (a2 : Int32) (a3 : Int32) (M : pm_M) : ∀ r, sStates_oneLessAbove a1 a2 a3 M = some r → pm_Ev 1 18 [.ref 23, .int a1, .int a2, .int a3] M (pm_rL r).1 (pm_rL r).2 := by
  refine pm_meth (al := [some (.ref 23), some (.int a1), some (.int a2), some (.int a3)]) rfl rfl rfl rfl rfl ?_
  unfold sStates_oneLessAbove
  show I_States_oneLessAbove _ (0, [some (.ref 23), some (.int a1), some (.int a2), some (.int a3)], [], M)
  refine pm_irun 1 (σ' := (1, [some (.ref 23), some (.int a1), some (.int a2), some (.int a3)], [.int a1], M)) rfl ?_
  refine pm_iite (σ1 := (29, [some (.ref 23), some (.int a1), some (.int a2), some (.int a3)], [], M)) (σ2 := (4, [some (.ref 23), some (.int a1), some (.int a2), some (.int a3)], [], M)) rfl (fun _ => ?_) (fun _ => ?_)
  · refine pm_irun 1 (σ' := (30, [some (.ref 23), some (.int a1), some (.int a2), some (.int a3)], [.int a3], M)) rfl ?_
    refine pm_iite (σ1 := (52, [some (.ref 23), some (.int a1), some (.int a2), some (.int a3)], [], M)) (σ2 := (33, [some (.ref 23), some (.int a1), some (.int a2), some (.int a3)], [], M)) rfl (fun _ => ?_) (fun _ => ?_)
    · refine pm_irun 1 (σ' := (53, [some (.ref 23), some (.int a1), some (.int a2), some (.int a3)], [.long (0 : Int64)], M)) rfl ?_
      exact pm_irL rfl rfl
    · refine pm_irun 8 (σ' := (44, [some (.ref 23), some (.int a1), some (.int a2), some (.int a3)], [.int a3, .int (a2 * (7 : Int32)), .ref 26, .long a3.toInt64], M)) rfl ?_
      refine pm_irun 3 (σ' := (47, [some (.ref 23), some (.int a1), some (.int a2), some (.int a3)], [.int (((a2 * (7 : Int32)) + a3) - (1 : Int32)), .ref 26, .long a3.toInt64], M)) rfl ?_
      refine pm_igd (σ1 := (48, [some (.ref 23), some (.int a1), some (.int a2), some (.int a3)], [.long (M.2 26 (((a2 * (7 : Int32)) + a3) - (1 : Int32)).toNatClampNeg), .long a3.toInt64], M)) rfl (fun _ => ?_)
      refine pm_irun 2 (σ' := (53, [some (.ref 23), some (.int a1), some (.int a2), some (.int a3)], [.long (a3.toInt64 * (M.2 26 (((a2 * (7 : Int32)) + a3) - (1 : Int32)).toNatClampNeg))], M)) rfl ?_
      exact pm_irL rfl rfl
  · refine pm_irun 1 (σ' := (5, [some (.ref 23), some (.int a1), some (.int a2), some (.int a3)], [.int a2], M)) rfl ?_
    refine pm_iite (σ1 := (27, [some (.ref 23), some (.int a1), some (.int a2), some (.int a3)], [], M)) (σ2 := (8, [some (.ref 23), some (.int a1), some (.int a2), some (.int a3)], [], M)) rfl (fun _ => ?_) (fun _ => ?_)
    · refine pm_irun 1 (σ' := (28, [some (.ref 23), some (.int a1), some (.int a2), some (.int a3)], [.long (0 : Int64)], M)) rfl ?_
      exact pm_irL rfl rfl
    · refine pm_irun 8 (σ' := (19, [some (.ref 23), some (.int a1), some (.int a2), some (.int a3)], [.int (7 : Int32), .int (a2 - (1 : Int32)), .ref 26, .long a2.toInt64], M)) rfl ?_
      refine pm_irun 3 (σ' := (22, [some (.ref 23), some (.int a1), some (.int a2), some (.int a3)], [.int (((a2 - (1 : Int32)) * (7 : Int32)) + a3), .ref 26, .long a2.toInt64], M)) rfl ?_
      refine pm_igd (σ1 := (23, [some (.ref 23), some (.int a1), some (.int a2), some (.int a3)], [.long (M.2 26 (((a2 - (1 : Int32)) * (7 : Int32)) + a3).toNatClampNeg), .long a2.toInt64], M)) rfl (fun _ => ?_)
      refine pm_irun 2 (σ' := (28, [some (.ref 23), some (.int a1), some (.int a2), some (.int a3)], [.long (a2.toInt64 * (M.2 26 (((a2 - (1 : Int32)) * (7 : Int32)) + a3).toNatClampNeg))], M)) rfl ?_
      exact pm_irL rfl rfl
def sC_rateOf (a1 : Int32) (a2 : Int32) (a3 : Int32) (a4 : Int32) (M : pm_M) : Option (Int64 × pm_M) := pm_jn (fun (q3 : Int32) (M2 : pm_M) => pm_jn (fun (q6 : Int32) (M5 : pm_M) => pm_bd (sStates_constantOf q3 q6 (M5.1 1 0) M5) fun v8 M7 => pm_bd (sStates_oneLessAbove a1 q3 q6 M7) fun v10 M9 => pm_bd (sC_fraction v10 v8 a4 M9) fun v12 M11 => some (v12, M11)) fun (j4 : Int32 → pm_M → Option (Int64 × pm_M)) => if ¬ a1 = 0 then (j4 a2 M2) else (j4 a3 M2)) fun (j1 : Int32 → pm_M → Option (Int64 × pm_M)) => if ¬ a1 = 0 then (j1 a3 M) else (j1 a2 M)
abbrev I_C_rateOf (sh : Option (Int64 × pm_M)) (σ : pm_St) : Prop := pm_Im none (pm_Ev 5) pm_T106 (some .long) pm_rL sh σ
set_option maxHeartbeats 4000000 in
set_option maxRecDepth 100000 in
theorem sC_rateOf_ok (a1 : Int32) (a2 : Int32) (a3 : Int32) (a4 : Int32) (M : pm_M) : ∀ r, sC_rateOf a1 a2 a3 a4 M = some r → pm_Ev 6 106 [.ref 0, .int a1, .int a2, .int a3, .int a4] M (pm_rL r).1 (pm_rL r).2 := by
  refine pm_meth (al := [some (.ref 0), some (.int a1), some (.int a2), some (.int a3), some (.int a4), none, none, none, none]) rfl rfl rfl rfl rfl ?_
  unfold sC_rateOf
  show I_C_rateOf _ (0, [some (.ref 0), some (.int a1), some (.int a2), some (.int a3), some (.int a4), none, none, none, none], [], M)
  refine pm_irun 1 (σ' := (1, [some (.ref 0), some (.int a1), some (.int a2), some (.int a3), some (.int a4), none, none, none, none], [.int a1], M)) rfl ?_
  refine pm_ijn (fun (g : Int32 → pm_M → Option (Int64 × pm_M)) => ∀ (q3 : Int32) (M2 : pm_M), I_C_rateOf (g q3 M2) (9, [some (.ref 0), some (.int a1), some (.int a2), some (.int a3), some (.int a4), none, none, none, none], [.int q3], M2)) (fun (q3 : Int32) (M2 : pm_M) => ?_) (fun j1 hj1 => ?_)
  · show I_C_rateOf _ (9, [some (.ref 0), some (.int a1), some (.int a2), some (.int a3), some (.int a4), none, none, none, none], [.int q3], M2)
    refine pm_irun 1 (σ' := (11, [some (.ref 0), some (.int a1), some (.int a2), some (.int a3), some (.int a4), some (.int q3), none, none, none], [], M2)) rfl ?_
    refine pm_irun 1 (σ' := (12, [some (.ref 0), some (.int a1), some (.int a2), some (.int a3), some (.int a4), some (.int q3), none, none, none], [.int a1], M2)) rfl ?_
    refine pm_ijn (fun (g : Int32 → pm_M → Option (Int64 × pm_M)) => ∀ (q6 : Int32) (M5 : pm_M), I_C_rateOf (g q6 M5) (20, [some (.ref 0), some (.int a1), none, none, some (.int a4), some (.int q3), none, none, none], [.int q6], M5)) (fun (q6 : Int32) (M5 : pm_M) => ?_) (fun j4 hj4 => ?_)
    · show I_C_rateOf _ (20, [some (.ref 0), some (.int a1), none, none, some (.int a4), some (.int q3), none, none, none], [.int q6], M5)
      refine pm_irun 1 (σ' := (22, [some (.ref 0), some (.int a1), none, none, some (.int a4), some (.int q3), some (.int q6), none, none], [], M5)) rfl ?_
      refine pm_irun 7 (σ' := (37, [some (.ref 0), some (.int a1), none, none, some (.int a4), some (.int q3), some (.int q6), none, none], [.int (M5.1 1 0), .int q6, .int q3, .ref 23], M5)) rfl ?_
      refine pm_icL (as := [.ref 23, .int q3, .int q6, .int (M5.1 1 0)]) (rest := []) rfl rfl rfl rfl (Nat.le_of_ble_eq_true rfl) rfl (fun r h => pm_Ev_mono (Nat.le_of_ble_eq_true rfl) (sStates_constantOf_ok q3 q6 (M5.1 1 0) M5 r h)) (fun v8 M7 => ?_)
      show pm_Im _ _ _ _ _ _ (40, [some (.ref 0), some (.int a1), none, none, some (.int a4), some (.int q3), some (.int q6), none, none], [.long v8], M7)
      refine pm_irun 1 (σ' := (42, [some (.ref 0), some (.int a1), none, none, some (.int a4), some (.int q3), some (.int q6), some (.long v8), none], [], M7)) rfl ?_
      refine pm_irun 5 (σ' := (51, [some (.ref 0), some (.int a1), none, none, some (.int a4), some (.int q3), some (.int q6), some (.long v8), none], [.int q6, .int q3, .int a1, .ref 23], M7)) rfl ?_
      refine pm_icL (as := [.ref 23, .int a1, .int q3, .int q6]) (rest := []) rfl rfl rfl rfl (Nat.le_of_ble_eq_true rfl) rfl (fun r h => pm_Ev_mono (Nat.le_of_ble_eq_true rfl) (sStates_oneLessAbove_ok a1 q3 q6 M7 r h)) (fun v10 M9 => ?_)
      show pm_Im _ _ _ _ _ _ (54, [some (.ref 0), some (.int a1), none, none, some (.int a4), some (.int q3), some (.int q6), some (.long v8), none], [.long v10], M9)
      refine pm_irun 2 (σ' := (58, [some (.ref 0), some (.int a1), none, none, some (.int a4), some (.int q3), some (.int q6), some (.long v8), none], [.int a4, .long v8, .long v10], M9)) rfl ?_
      refine pm_icL (as := [.long v10, .long v8, .int a4]) (rest := []) rfl rfl rfl rfl (Nat.le_of_ble_eq_true rfl) rfl (fun r h => pm_Ev_mono (Nat.le_of_ble_eq_true rfl) (sC_fraction_ok v10 v8 a4 M9 r h)) (fun v12 M11 => ?_)
      show pm_Im _ _ _ _ _ _ (61, [some (.ref 0), some (.int a1), none, none, some (.int a4), some (.int q3), some (.int q6), some (.long v8), none], [.long v12], M11)
      exact pm_irL rfl rfl
    refine pm_iite (σ1 := (19, [some (.ref 0), some (.int a1), some (.int a2), some (.int a3), some (.int a4), some (.int q3), none, none, none], [], M2)) (σ2 := (15, [some (.ref 0), some (.int a1), some (.int a2), some (.int a3), some (.int a4), some (.int q3), none, none, none], [], M2)) rfl (fun _ => ?_) (fun _ => ?_)
    · refine pm_irun 1 (σ' := (20, [some (.ref 0), some (.int a1), some (.int a2), some (.int a3), some (.int a4), some (.int q3), none, none, none], [.int a2], M2)) rfl ?_
      refine pm_iwk (al' := [some (.ref 0), some (.int a1), none, none, some (.int a4), some (.int q3), none, none, none]) (pm_wkS (pm_wkS (pm_wkN (pm_wkN (pm_wkS (pm_wkS (pm_wkS (pm_wkS (pm_wkS pm_wk0))))))))) ?_
      exact hj4 _ _
    · refine pm_irun 2 (σ' := (20, [some (.ref 0), some (.int a1), some (.int a2), some (.int a3), some (.int a4), some (.int q3), none, none, none], [.int a3], M2)) rfl ?_
      refine pm_iwk (al' := [some (.ref 0), some (.int a1), none, none, some (.int a4), some (.int q3), none, none, none]) (pm_wkS (pm_wkS (pm_wkN (pm_wkN (pm_wkS (pm_wkS (pm_wkS (pm_wkS (pm_wkS pm_wk0))))))))) ?_
      exact hj4 _ _
  refine pm_iite (σ1 := (8, [some (.ref 0), some (.int a1), some (.int a2), some (.int a3), some (.int a4), none, none, none, none], [], M)) (σ2 := (4, [some (.ref 0), some (.int a1), some (.int a2), some (.int a3), some (.int a4), none, none, none, none], [], M)) rfl (fun _ => ?_) (fun _ => ?_)
  · refine pm_irun 1 (σ' := (9, [some (.ref 0), some (.int a1), some (.int a2), some (.int a3), some (.int a4), none, none, none, none], [.int a3], M)) rfl ?_
    exact hj1 _ _
  · refine pm_irun 2 (σ' := (9, [some (.ref 0), some (.int a1), some (.int a2), some (.int a3), some (.int a4), none, none, none, none], [.int a2], M)) rfl ?_
    exact hj1 _ _
def sC_demandTogether (a1 : Int32) (a2 : Int32) (M : pm_M) : Option (Int64 × pm_M) := pm_loop (fun _ _ _ => none) (fun (g1 : Int64 → Int32 → pm_M → Option (Int64 × pm_M)) x3 x4 M2 => if (M2.1 1 0) ≤ x4 then (some (x3, M2)) else (if pm_in x4 5 then (pm_jn (fun (q7 : Int32) (M6 : pm_M) => if ¬ q7 = a2 then (pm_lt ((x4 + (1 : Int32))) fun x8 => g1 x3 x8 M6) else (pm_bd (sTours_demandOf a1 x4 M6) fun v10 M9 => pm_lt ((x3 + v10)) fun x11 => pm_lt ((x4 + (1 : Int32))) fun x12 => g1 x11 x12 M9)) fun (j5 : Int32 → pm_M → Option (Int64 × pm_M)) => if ¬ (M2.1 2 x4.toNatClampNeg) = (3 : Int32) then (j5 (0 : Int32) M2) else (j5 (1 : Int32) M2)) else none)) 1000000 (0 : Int64) (0 : Int32) M
abbrev I_C_demandTogether (sh : Option (Int64 × pm_M)) (σ : pm_St) : Prop := pm_Im none (pm_Ev 1) pm_T109 (some .long) pm_rL sh σ
set_option maxHeartbeats 4000000 in
set_option maxRecDepth 100000 in
theorem sC_demandTogether_ok (a1 : Int32) (a2 : Int32) (M : pm_M) : ∀ r, sC_demandTogether a1 a2 M = some r → pm_Ev 2 109 [.ref 0, .int a1, .int a2] M (pm_rL r).1 (pm_rL r).2 := by
  refine pm_meth (al := [some (.ref 0), some (.int a1), some (.int a2), none, none, none]) rfl rfl rfl rfl rfl ?_
  unfold sC_demandTogether
  show I_C_demandTogether _ (0, [some (.ref 0), some (.int a1), some (.int a2), none, none, none], [], M)
  refine pm_irun 2 (σ' := (2, [some (.ref 0), some (.int a1), some (.int a2), some (.long (0 : Int64)), none, none], [], M)) rfl ?_
  refine pm_irun 2 (σ' := (5, [some (.ref 0), some (.int a1), some (.int a2), some (.long (0 : Int64)), none, some (.int (0 : Int32))], [], M)) rfl ?_
  refine pm_iloop (fun (g : Int64 → Int32 → pm_M → Option (Int64 × pm_M)) => ∀ (x3 : Int64) (x4 : Int32) (M2 : pm_M), I_C_demandTogether (g x3 x4 M2) (5, [some (.ref 0), some (.int a1), some (.int a2), some (.long x3), none, some (.int x4)], [], M2)) (fun _ _ _ => pm_inone) (fun g1 hg1 x3 x4 M2 => ?_) 1000000 _ _ _
  show I_C_demandTogether _ (5, [some (.ref 0), some (.int a1), some (.int a2), some (.long x3), none, some (.int x4)], [], M2)
  refine pm_irun 4 (σ' := (14, [some (.ref 0), some (.int a1), some (.int a2), some (.long x3), none, some (.int x4)], [.int (M2.1 1 0), .int x4], M2)) rfl ?_
  refine pm_iite (σ1 := (59, [some (.ref 0), some (.int a1), some (.int a2), some (.long x3), none, some (.int x4)], [], M2)) (σ2 := (17, [some (.ref 0), some (.int a1), some (.int a2), some (.long x3), none, some (.int x4)], [], M2)) rfl (fun _ => ?_) (fun _ => ?_)
  · refine pm_irun 1 (σ' := (60, [some (.ref 0), some (.int a1), some (.int a2), some (.long x3), none, some (.int x4)], [.long x3], M2)) rfl ?_
    exact pm_irL rfl rfl
  · refine pm_irun 4 (σ' := (26, [some (.ref 0), some (.int a1), some (.int a2), some (.long x3), none, some (.int x4)], [.int x4, .ref 2], M2)) rfl ?_
    refine pm_igd (σ1 := (27, [some (.ref 0), some (.int a1), some (.int a2), some (.long x3), none, some (.int x4)], [.int (M2.1 2 x4.toNatClampNeg)], M2)) rfl (fun _ => ?_)
    refine pm_irun 1 (σ' := (28, [some (.ref 0), some (.int a1), some (.int a2), some (.long x3), none, some (.int x4)], [.int (3 : Int32), .int (M2.1 2 x4.toNatClampNeg)], M2)) rfl ?_
    refine pm_ijn (fun (g : Int32 → pm_M → Option (Int64 × pm_M)) => ∀ (q7 : Int32) (M6 : pm_M), I_C_demandTogether (g q7 M6) (36, [some (.ref 0), some (.int a1), some (.int a2), some (.long x3), none, some (.int x4)], [.int q7], M6)) (fun (q7 : Int32) (M6 : pm_M) => ?_) (fun j5 hj5 => ?_)
    · show I_C_demandTogether _ (36, [some (.ref 0), some (.int a1), some (.int a2), some (.long x3), none, some (.int x4)], [.int q7], M6)
      refine pm_irun 1 (σ' := (37, [some (.ref 0), some (.int a1), some (.int a2), some (.long x3), none, some (.int x4)], [.int a2, .int q7], M6)) rfl ?_
      refine pm_iite (σ1 := (53, [some (.ref 0), some (.int a1), some (.int a2), some (.long x3), none, some (.int x4)], [], M6)) (σ2 := (40, [some (.ref 0), some (.int a1), some (.int a2), some (.long x3), none, some (.int x4)], [], M6)) rfl (fun _ => ?_) (fun _ => ?_)
      · refine pm_irun 1 (σ' := (56, [some (.ref 0), some (.int a1), some (.int a2), some (.long x3), none, some (.int (x4 + (1 : Int32)))], [], M6)) rfl ?_
        refine pm_ilt (fun y => (56, [some (.ref 0), some (.int a1), some (.int a2), some (.long x3), none, some (.int y)], [], M6)) (fun x8 => ?_)
        refine pm_irun 1 (σ' := (5, [some (.ref 0), some (.int a1), some (.int a2), some (.long x3), none, some (.int x8)], [], M6)) rfl ?_
        exact hg1 _ _ _
      · refine pm_irun 5 (σ' := (48, [some (.ref 0), some (.int a1), some (.int a2), some (.long x3), none, some (.int x4)], [.int x4, .int a1, .ref 15, .long x3], M6)) rfl ?_
        refine pm_icL (as := [.ref 15, .int a1, .int x4]) (rest := [.long x3]) rfl rfl rfl rfl (Nat.le_of_ble_eq_true rfl) rfl (fun r h => pm_Ev_mono (Nat.le_of_ble_eq_true rfl) (sTours_demandOf_ok a1 x4 M6 r h)) (fun v10 M9 => ?_)
        show pm_Im _ _ _ _ _ _ (51, [some (.ref 0), some (.int a1), some (.int a2), some (.long x3), none, some (.int x4)], [.long v10, .long x3], M9)
        refine pm_irun 2 (σ' := (53, [some (.ref 0), some (.int a1), some (.int a2), some (.long (x3 + v10)), none, some (.int x4)], [], M9)) rfl ?_
        refine pm_ilt (fun y => (53, [some (.ref 0), some (.int a1), some (.int a2), some (.long y), none, some (.int x4)], [], M9)) (fun x11 => ?_)
        refine pm_irun 1 (σ' := (56, [some (.ref 0), some (.int a1), some (.int a2), some (.long x11), none, some (.int (x4 + (1 : Int32)))], [], M9)) rfl ?_
        refine pm_ilt (fun y => (56, [some (.ref 0), some (.int a1), some (.int a2), some (.long x11), none, some (.int y)], [], M9)) (fun x12 => ?_)
        refine pm_irun 1 (σ' := (5, [some (.ref 0), some (.int a1), some (.int a2), some (.long x11), none, some (.int x12)], [], M9)) rfl ?_
        exact hg1 _ _ _
    refine pm_iite (σ1 := (35, [some (.ref 0), some (.int a1), some (.int a2), some (.long x3), none, some (.int x4)], [], M2)) (σ2 := (31, [some (.ref 0), some (.int a1), some (.int a2), some (.long x3), none, some (.int x4)], [], M2)) rfl (fun _ => ?_) (fun _ => ?_)
    · refine pm_irun 1 (σ' := (36, [some (.ref 0), some (.int a1), some (.int a2), some (.long x3), none, some (.int x4)], [.int (0 : Int32)], M2)) rfl ?_
      exact hj5 _ _
    · refine pm_irun 2 (σ' := (36, [some (.ref 0), some (.int a1), some (.int a2), some (.long x3), none, some (.int x4)], [.int (1 : Int32)], M2)) rfl ?_
      exact hj5 _ _
def sC_demandMost (a1 : Int32) (M : pm_M) : Option (Int64 × pm_M) := pm_loop (fun _ _ _ => none) (fun (g1 : Int64 → Int32 → pm_M → Option (Int64 × pm_M)) x3 x4 M2 => if (M2.1 1 0) ≤ x4 then (some (x3, M2)) else (if pm_in x4 5 then (if (M2.1 2 x4.toNatClampNeg) = (3 : Int32) then (pm_lt ((x4 + (1 : Int32))) fun x5 => g1 x3 x5 M2) else (pm_bd (sTours_demandOf a1 x4 M2) fun v7 M6 => pm_lt ((if v7 < x3 then x3 else v7)) fun x8 => pm_lt ((x4 + (1 : Int32))) fun x9 => g1 x8 x9 M6)) else none)) 1000000 (0 : Int64) (0 : Int32) M
abbrev I_C_demandMost (sh : Option (Int64 × pm_M)) (σ : pm_St) : Prop := pm_Im none (pm_Ev 1) pm_T110 (some .long) pm_rL sh σ
set_option maxHeartbeats 4000000 in
set_option maxRecDepth 100000 in
theorem sC_demandMost_ok (a1 : Int32) (M : pm_M) : ∀ r, sC_demandMost a1 M = some r → pm_Ev 2 110 [.ref 0, .int a1] M (pm_rL r).1 (pm_rL r).2 := by
  refine pm_meth (al := [some (.ref 0), some (.int a1), none, none, none]) rfl rfl rfl rfl rfl ?_
  unfold sC_demandMost
  show I_C_demandMost _ (0, [some (.ref 0), some (.int a1), none, none, none], [], M)
  refine pm_irun 2 (σ' := (2, [some (.ref 0), some (.int a1), some (.long (0 : Int64)), none, none], [], M)) rfl ?_
  refine pm_irun 2 (σ' := (5, [some (.ref 0), some (.int a1), some (.long (0 : Int64)), none, some (.int (0 : Int32))], [], M)) rfl ?_
  refine pm_iloop (fun (g : Int64 → Int32 → pm_M → Option (Int64 × pm_M)) => ∀ (x3 : Int64) (x4 : Int32) (M2 : pm_M), I_C_demandMost (g x3 x4 M2) (5, [some (.ref 0), some (.int a1), some (.long x3), none, some (.int x4)], [], M2)) (fun _ _ _ => pm_inone) (fun g1 hg1 x3 x4 M2 => ?_) 1000000 _ _ _
  show I_C_demandMost _ (5, [some (.ref 0), some (.int a1), some (.long x3), none, some (.int x4)], [], M2)
  refine pm_irun 4 (σ' := (14, [some (.ref 0), some (.int a1), some (.long x3), none, some (.int x4)], [.int (M2.1 1 0), .int x4], M2)) rfl ?_
  refine pm_iite (σ1 := (52, [some (.ref 0), some (.int a1), some (.long x3), none, some (.int x4)], [], M2)) (σ2 := (17, [some (.ref 0), some (.int a1), some (.long x3), none, some (.int x4)], [], M2)) rfl (fun _ => ?_) (fun _ => ?_)
  · refine pm_irun 1 (σ' := (53, [some (.ref 0), some (.int a1), some (.long x3), none, some (.int x4)], [.long x3], M2)) rfl ?_
    exact pm_irL rfl rfl
  · refine pm_irun 4 (σ' := (26, [some (.ref 0), some (.int a1), some (.long x3), none, some (.int x4)], [.int x4, .ref 2], M2)) rfl ?_
    refine pm_igd (σ1 := (27, [some (.ref 0), some (.int a1), some (.long x3), none, some (.int x4)], [.int (M2.1 2 x4.toNatClampNeg)], M2)) rfl (fun _ => ?_)
    refine pm_irun 1 (σ' := (28, [some (.ref 0), some (.int a1), some (.long x3), none, some (.int x4)], [.int (3 : Int32), .int (M2.1 2 x4.toNatClampNeg)], M2)) rfl ?_
    refine pm_iite (σ1 := (46, [some (.ref 0), some (.int a1), some (.long x3), none, some (.int x4)], [], M2)) (σ2 := (31, [some (.ref 0), some (.int a1), some (.long x3), none, some (.int x4)], [], M2)) rfl (fun _ => ?_) (fun _ => ?_)
    · refine pm_irun 1 (σ' := (49, [some (.ref 0), some (.int a1), some (.long x3), none, some (.int (x4 + (1 : Int32)))], [], M2)) rfl ?_
      refine pm_ilt (fun y => (49, [some (.ref 0), some (.int a1), some (.long x3), none, some (.int y)], [], M2)) (fun x5 => ?_)
      refine pm_irun 1 (σ' := (5, [some (.ref 0), some (.int a1), some (.long x3), none, some (.int x5)], [], M2)) rfl ?_
      exact hg1 _ _ _
    · refine pm_irun 5 (σ' := (39, [some (.ref 0), some (.int a1), some (.long x3), none, some (.int x4)], [.int x4, .int a1, .ref 15, .long x3], M2)) rfl ?_
      refine pm_icL (as := [.ref 15, .int a1, .int x4]) (rest := [.long x3]) rfl rfl rfl rfl (Nat.le_of_ble_eq_true rfl) rfl (fun r h => pm_Ev_mono (Nat.le_of_ble_eq_true rfl) (sTours_demandOf_ok a1 x4 M2 r h)) (fun v7 M6 => ?_)
      show pm_Im _ _ _ _ _ _ (42, [some (.ref 0), some (.int a1), some (.long x3), none, some (.int x4)], [.long v7, .long x3], M6)
      refine pm_igt (c := (([] : List Value).map fun v => v.category).sum ≤ 8) (σ1 := (45, [some (.ref 0), some (.int a1), some (.long x3), none, some (.int x4)], [.long (if v7 < x3 then x3 else v7)], M6)) (Nat.le_of_ble_eq_true rfl) rfl ?_
      refine pm_irun 1 (σ' := (46, [some (.ref 0), some (.int a1), some (.long (if v7 < x3 then x3 else v7)), none, some (.int x4)], [], M6)) rfl ?_
      refine pm_ilt (fun y => (46, [some (.ref 0), some (.int a1), some (.long y), none, some (.int x4)], [], M6)) (fun x8 => ?_)
      refine pm_irun 1 (σ' := (49, [some (.ref 0), some (.int a1), some (.long x8), none, some (.int (x4 + (1 : Int32)))], [], M6)) rfl ?_
      refine pm_ilt (fun y => (49, [some (.ref 0), some (.int a1), some (.long x8), none, some (.int y)], [], M6)) (fun x9 => ?_)
      refine pm_irun 1 (σ' := (5, [some (.ref 0), some (.int a1), some (.long x8), none, some (.int x9)], [], M6)) rfl ?_
      exact hg1 _ _ _
def sC_limitAbove (a1 : Int32) (a2 : Int32) (M : pm_M) : Option (Int64 × pm_M) := if pm_in a1 2 then (pm_lt ((M.1 5 a1.toNatClampNeg).toInt64) fun x1 => pm_bd (sC_demandTogether a1 (0 : Int32) M) fun v3 M2 => pm_bd (sC_demandTogether a1 (1 : Int32) M2) fun v5 M4 => pm_lt ((v3 + v5)) fun x6 => pm_bd (sC_demandMost a1 M4) fun v8 M7 => pm_jn (fun (M10 : pm_M) => pm_bd (sC_fraction x1 x6 a2 M10) fun v12 M11 => some (v12, M11)) fun (j9 : pm_M → Option (Int64 × pm_M)) => if (lg_cmp v8 (0 : Int64)) ≤ 0 then (j9 M7) else (if (lg_cmp (v8 * x1) x6) ≤ 0 then (j9 M7) else (pm_bd (sC_fraction (1 : Int64) v8 a2 M7) fun v14 M13 => some (v14, M13)))) else none
abbrev I_C_limitAbove (sh : Option (Int64 × pm_M)) (σ : pm_St) : Prop := pm_Im none (pm_Ev 2) pm_T107 (some .long) pm_rL sh σ
set_option maxHeartbeats 4000000 in
set_option maxRecDepth 100000 in
theorem sC_limitAbove_ok (a1 : Int32) (a2 : Int32) (M : pm_M) : ∀ r, sC_limitAbove a1 a2 M = some r → pm_Ev 3 107 [.ref 0, .int a1, .int a2] M (pm_rL r).1 (pm_rL r).2 := by
  refine pm_meth (al := [some (.ref 0), some (.int a1), some (.int a2), none, none, none, none, none, none]) rfl rfl rfl rfl rfl ?_
  unfold sC_limitAbove
  show I_C_limitAbove _ (0, [some (.ref 0), some (.int a1), some (.int a2), none, none, none, none, none, none], [], M)
  refine pm_irun 4 (σ' := (8, [some (.ref 0), some (.int a1), some (.int a2), none, none, none, none, none, none], [.int a1, .ref 5], M)) rfl ?_
  refine pm_igd (σ1 := (9, [some (.ref 0), some (.int a1), some (.int a2), none, none, none, none, none, none], [.int (M.1 5 a1.toNatClampNeg)], M)) rfl (fun _ => ?_)
  refine pm_irun 2 (σ' := (11, [some (.ref 0), some (.int a1), some (.int a2), some (.long (M.1 5 a1.toNatClampNeg).toInt64), none, none, none, none, none], [], M)) rfl ?_
  refine pm_ilt (fun y => (11, [some (.ref 0), some (.int a1), some (.int a2), some (.long y), none, none, none, none, none], [], M)) (fun x1 => ?_)
  refine pm_irun 3 (σ' := (14, [some (.ref 0), some (.int a1), some (.int a2), some (.long x1), none, none, none, none, none], [.int (0 : Int32), .int a1, .ref 0], M)) rfl ?_
  refine pm_icL (as := [.ref 0, .int a1, .int (0 : Int32)]) (rest := []) rfl rfl rfl rfl (Nat.le_of_ble_eq_true rfl) rfl (fun r h => pm_Ev_mono (Nat.le_of_ble_eq_true rfl) (sC_demandTogether_ok a1 (0 : Int32) M r h)) (fun v3 M2 => ?_)
  show pm_Im _ _ _ _ _ _ (17, [some (.ref 0), some (.int a1), some (.int a2), some (.long x1), none, none, none, none, none], [.long v3], M2)
  refine pm_irun 3 (σ' := (20, [some (.ref 0), some (.int a1), some (.int a2), some (.long x1), none, none, none, none, none], [.int (1 : Int32), .int a1, .ref 0, .long v3], M2)) rfl ?_
  refine pm_icL (as := [.ref 0, .int a1, .int (1 : Int32)]) (rest := [.long v3]) rfl rfl rfl rfl (Nat.le_of_ble_eq_true rfl) rfl (fun r h => pm_Ev_mono (Nat.le_of_ble_eq_true rfl) (sC_demandTogether_ok a1 (1 : Int32) M2 r h)) (fun v5 M4 => ?_)
  show pm_Im _ _ _ _ _ _ (23, [some (.ref 0), some (.int a1), some (.int a2), some (.long x1), none, none, none, none, none], [.long v5, .long v3], M4)
  refine pm_irun 2 (σ' := (26, [some (.ref 0), some (.int a1), some (.int a2), some (.long x1), none, some (.long (v3 + v5)), none, none, none], [], M4)) rfl ?_
  refine pm_ilt (fun y => (26, [some (.ref 0), some (.int a1), some (.int a2), some (.long x1), none, some (.long y), none, none, none], [], M4)) (fun x6 => ?_)
  refine pm_irun 2 (σ' := (28, [some (.ref 0), some (.int a1), some (.int a2), some (.long x1), none, some (.long x6), none, none, none], [.int a1, .ref 0], M4)) rfl ?_
  refine pm_icL (as := [.ref 0, .int a1]) (rest := []) rfl rfl rfl rfl (Nat.le_of_ble_eq_true rfl) rfl (fun r h => pm_Ev_mono (Nat.le_of_ble_eq_true rfl) (sC_demandMost_ok a1 M4 r h)) (fun v8 M7 => ?_)
  show pm_Im _ _ _ _ _ _ (31, [some (.ref 0), some (.int a1), some (.int a2), some (.long x1), none, some (.long x6), none, none, none], [.long v8], M7)
  refine pm_irun 1 (σ' := (33, [some (.ref 0), some (.int a1), some (.int a2), some (.long x1), none, some (.long x6), none, some (.long v8), none], [], M7)) rfl ?_
  refine pm_irun 3 (σ' := (37, [some (.ref 0), some (.int a1), some (.int a2), some (.long x1), none, some (.long x6), none, some (.long v8), none], [.int (lg_cmp v8 (0 : Int64))], M7)) rfl ?_
  refine pm_ijn (fun (g : pm_M → Option (Int64 × pm_M)) => ∀ (M10 : pm_M), I_C_limitAbove (g M10) (60, [none, none, some (.int a2), some (.long x1), none, some (.long x6), none, none, none], [], M10)) (fun (M10 : pm_M) => ?_) (fun j9 hj9 => ?_)
  · show I_C_limitAbove _ (60, [none, none, some (.int a2), some (.long x1), none, some (.long x6), none, none, none], [], M10)
    refine pm_irun 3 (σ' := (64, [none, none, some (.int a2), some (.long x1), none, some (.long x6), none, none, none], [.int a2, .long x6, .long x1], M10)) rfl ?_
    refine pm_icL (as := [.long x1, .long x6, .int a2]) (rest := []) rfl rfl rfl rfl (Nat.le_of_ble_eq_true rfl) rfl (fun r h => pm_Ev_mono (Nat.le_of_ble_eq_true rfl) (sC_fraction_ok x1 x6 a2 M10 r h)) (fun v12 M11 => ?_)
    show pm_Im _ _ _ _ _ _ (67, [none, none, some (.int a2), some (.long x1), none, some (.long x6), none, none, none], [.long v12], M11)
    exact pm_irL rfl rfl
  refine pm_iite (σ1 := (60, [some (.ref 0), some (.int a1), some (.int a2), some (.long x1), none, some (.long x6), none, some (.long v8), none], [], M7)) (σ2 := (40, [some (.ref 0), some (.int a1), some (.int a2), some (.long x1), none, some (.long x6), none, some (.long v8), none], [], M7)) rfl (fun _ => ?_) (fun _ => ?_)
  · refine pm_iwk (al' := [none, none, some (.int a2), some (.long x1), none, some (.long x6), none, none, none]) (pm_wkN (pm_wkN (pm_wkS (pm_wkS (pm_wkS (pm_wkS (pm_wkS (pm_wkN (pm_wkS pm_wk0))))))))) ?_
    exact hj9 _
  · refine pm_irun 5 (σ' := (47, [some (.ref 0), some (.int a1), some (.int a2), some (.long x1), none, some (.long x6), none, some (.long v8), none], [.int (lg_cmp (v8 * x1) x6)], M7)) rfl ?_
    refine pm_iite (σ1 := (60, [some (.ref 0), some (.int a1), some (.int a2), some (.long x1), none, some (.long x6), none, some (.long v8), none], [], M7)) (σ2 := (50, [some (.ref 0), some (.int a1), some (.int a2), some (.long x1), none, some (.long x6), none, some (.long v8), none], [], M7)) rfl (fun _ => ?_) (fun _ => ?_)
    · refine pm_iwk (al' := [none, none, some (.int a2), some (.long x1), none, some (.long x6), none, none, none]) (pm_wkN (pm_wkN (pm_wkS (pm_wkS (pm_wkS (pm_wkS (pm_wkS (pm_wkN (pm_wkS pm_wk0))))))))) ?_
      exact hj9 _
    · refine pm_irun 3 (σ' := (54, [some (.ref 0), some (.int a1), some (.int a2), some (.long x1), none, some (.long x6), none, some (.long v8), none], [.int a2, .long v8, .long (1 : Int64)], M7)) rfl ?_
      refine pm_icL (as := [.long (1 : Int64), .long v8, .int a2]) (rest := []) rfl rfl rfl rfl (Nat.le_of_ble_eq_true rfl) rfl (fun r h => pm_Ev_mono (Nat.le_of_ble_eq_true rfl) (sC_fraction_ok (1 : Int64) v8 a2 M7 r h)) (fun v14 M13 => ?_)
      show pm_Im _ _ _ _ _ _ (57, [some (.ref 0), some (.int a1), some (.int a2), some (.long x1), none, some (.long x6), none, some (.long v8), none], [.long v14], M13)
      refine pm_irun 1 (σ' := (67, [some (.ref 0), some (.int a1), some (.int a2), some (.long x1), none, some (.long x6), none, some (.long v8), none], [.long v14], M13)) rfl ?_
      exact pm_irL rfl rfl
def sC_limitBelow (a1 : Int32) (a2 : Int32) (M : pm_M) : Option (Int64 × pm_M) := if pm_in a1 2 then (pm_lt ((M.1 5 a1.toNatClampNeg).toInt64) fun x1 => pm_bd (sC_demandTogether a1 (0 : Int32) M) fun v3 M2 => pm_bd (sC_demandTogether a1 (1 : Int32) M2) fun v5 M4 => pm_bd (sC_fraction x1 ((x1 * v3) + v5) a2 M4) fun v7 M6 => some (v7, M6)) else none
abbrev I_C_limitBelow (sh : Option (Int64 × pm_M)) (σ : pm_St) : Prop := pm_Im none (pm_Ev 2) pm_T108 (some .long) pm_rL sh σ
set_option maxHeartbeats 4000000 in
set_option maxRecDepth 100000 in
theorem sC_limitBelow_ok (a1 : Int32) (a2 : Int32) (M : pm_M) : ∀ r, sC_limitBelow a1 a2 M = some r → pm_Ev 3 108 [.ref 0, .int a1, .int a2] M (pm_rL r).1 (pm_rL r).2 := by
  refine pm_meth (al := [some (.ref 0), some (.int a1), some (.int a2), none, none]) rfl rfl rfl rfl rfl ?_
  unfold sC_limitBelow
  show I_C_limitBelow _ (0, [some (.ref 0), some (.int a1), some (.int a2), none, none], [], M)
  refine pm_irun 4 (σ' := (8, [some (.ref 0), some (.int a1), some (.int a2), none, none], [.int a1, .ref 5], M)) rfl ?_
  refine pm_igd (σ1 := (9, [some (.ref 0), some (.int a1), some (.int a2), none, none], [.int (M.1 5 a1.toNatClampNeg)], M)) rfl (fun _ => ?_)
  refine pm_irun 2 (σ' := (11, [some (.ref 0), some (.int a1), some (.int a2), some (.long (M.1 5 a1.toNatClampNeg).toInt64), none], [], M)) rfl ?_
  refine pm_ilt (fun y => (11, [some (.ref 0), some (.int a1), some (.int a2), some (.long y), none], [], M)) (fun x1 => ?_)
  refine pm_irun 5 (σ' := (16, [some (.ref 0), some (.int a1), some (.int a2), some (.long x1), none], [.int (0 : Int32), .int a1, .ref 0, .long x1, .long x1], M)) rfl ?_
  refine pm_icL (as := [.ref 0, .int a1, .int (0 : Int32)]) (rest := [.long x1, .long x1]) rfl rfl rfl rfl (Nat.le_of_ble_eq_true rfl) rfl (fun r h => pm_Ev_mono (Nat.le_of_ble_eq_true rfl) (sC_demandTogether_ok a1 (0 : Int32) M r h)) (fun v3 M2 => ?_)
  show pm_Im _ _ _ _ _ _ (19, [some (.ref 0), some (.int a1), some (.int a2), some (.long x1), none], [.long v3, .long x1, .long x1], M2)
  refine pm_irun 4 (σ' := (23, [some (.ref 0), some (.int a1), some (.int a2), some (.long x1), none], [.int (1 : Int32), .int a1, .ref 0, .long (x1 * v3), .long x1], M2)) rfl ?_
  refine pm_icL (as := [.ref 0, .int a1, .int (1 : Int32)]) (rest := [.long (x1 * v3), .long x1]) rfl rfl rfl rfl (Nat.le_of_ble_eq_true rfl) rfl (fun r h => pm_Ev_mono (Nat.le_of_ble_eq_true rfl) (sC_demandTogether_ok a1 (1 : Int32) M2 r h)) (fun v5 M4 => ?_)
  show pm_Im _ _ _ _ _ _ (26, [some (.ref 0), some (.int a1), some (.int a2), some (.long x1), none], [.long v5, .long (x1 * v3), .long x1], M4)
  refine pm_irun 2 (σ' := (28, [some (.ref 0), some (.int a1), some (.int a2), some (.long x1), none], [.int a2, .long ((x1 * v3) + v5), .long x1], M4)) rfl ?_
  refine pm_icL (as := [.long x1, .long ((x1 * v3) + v5), .int a2]) (rest := []) rfl rfl rfl rfl (Nat.le_of_ble_eq_true rfl) rfl (fun r h => pm_Ev_mono (Nat.le_of_ble_eq_true rfl) (sC_fraction_ok x1 ((x1 * v3) + v5) a2 M4 r h)) (fun v7 M6 => ?_)
  show pm_Im _ _ _ _ _ _ (31, [some (.ref 0), some (.int a1), some (.int a2), some (.long x1), none], [.long v7], M6)
  exact pm_irL rfl rfl
def sC_rate (a1 : Int32) (a2 : Int32) (a3 : Int32) (M : pm_M) : Option (Int64 × pm_M) := pm_bd (sC_isClass a1 M) fun v2 M1 => if v2 = 0 then (some ((-4611686018427387904 : Int64), M1)) else (if a2 < 0 then (some ((-4611686018427387904 : Int64), M1)) else (if (4 : Int32) < a2 then (some ((-4611686018427387904 : Int64), M1)) else (pm_bd (sC_isLine a3 M1) fun v4 M3 => if v4 = 0 then (some ((-4611686018427387904 : Int64), M3)) else (pm_bd (sTours_isSound M3) fun v6 M5 => if ¬ v6 = 0 then (if pm_in a1 2 then (pm_lt ((M5.1 5 a1.toNatClampNeg)) fun x7 => if pm_in ((1 : Int32) - a1) 2 then (pm_lt ((M5.1 5 ((1 : Int32) - a1).toNatClampNeg)) fun x8 => if ¬ x7 = 0 then (if a2 = Int32.ofNat 0 then (pm_bd (sC_rateOf a1 x7 x8 a3 M5) fun v10 M9 => some (v10, M9)) else if a2 = Int32.ofNat 1 then (pm_bd (sC_rateOf a1 x7 (0 : Int32) a3 M5) fun v12 M11 => some (v12, M11)) else if a2 = Int32.ofNat 2 then (if (6 : Int32) ≤ x7 then (some ((-4611686018427387904 : Int64), M5)) else (if (x7 + x8) < (8 : Int32) then (pm_bd (sC_rateOf a1 (x7 + (1 : Int32)) x8 a3 M5) fun v14 M13 => some (v14, M13)) else (some ((-4611686018427387904 : Int64), M5)))) else if a2 = Int32.ofNat 3 then (pm_bd (sC_limitAbove a1 a3 M5) fun v16 M15 => some (v16, M15)) else (pm_bd (sC_limitBelow a1 a3 M5) fun v18 M17 => some (v18, M17))) else (if (2 : Int32) ≤ a2 then (some ((-4611686018427387904 : Int64), M5)) else (pm_bd (sC_fraction (0 : Int64) (1 : Int64) a3 M5) fun v20 M19 => some (v20, M19)))) else none) else none) else (some ((-4611686018427387904 : Int64), M5))))))
abbrev I_C_rate (sh : Option (Int64 × pm_M)) (σ : pm_St) : Prop := pm_Im none (pm_Ev 6) pm_T75 (some .long) pm_rL sh σ
set_option maxHeartbeats 4000000 in
set_option maxRecDepth 100000 in
theorem sC_rate_ok (a1 : Int32) (a2 : Int32) (a3 : Int32) (M : pm_M) : ∀ r, sC_rate a1 a2 a3 M = some r → pm_Ev 7 75 [.ref 0, .int a1, .int a2, .int a3] M (pm_rL r).1 (pm_rL r).2 := by
  refine pm_meth (al := [some (.ref 0), some (.int a1), some (.int a2), some (.int a3), none, none]) rfl rfl rfl rfl rfl ?_
  unfold sC_rate
  show I_C_rate _ (0, [some (.ref 0), some (.int a1), some (.int a2), some (.int a3), none, none], [], M)
  refine pm_irun 1 (σ' := (1, [some (.ref 0), some (.int a1), some (.int a2), some (.int a3), none, none], [.int a1], M)) rfl ?_
  refine pm_icI (as := [.int a1]) (rest := []) rfl rfl rfl rfl (Nat.le_of_ble_eq_true rfl) rfl (fun r h => pm_Ev_mono (Nat.le_of_ble_eq_true rfl) (sC_isClass_ok a1 M r h)) (fun v2 M1 => ?_)
  show pm_Im _ _ _ _ _ _ (4, [some (.ref 0), some (.int a1), some (.int a2), some (.int a3), none, none], [.int v2], M1)
  refine pm_iite (σ1 := (33, [some (.ref 0), some (.int a1), some (.int a2), some (.int a3), none, none], [], M1)) (σ2 := (7, [some (.ref 0), some (.int a1), some (.int a2), some (.int a3), none, none], [], M1)) rfl (fun _ => ?_) (fun _ => ?_)
  · refine pm_irun 1 (σ' := (36, [some (.ref 0), some (.int a1), some (.int a2), some (.int a3), none, none], [.long (-4611686018427387904 : Int64)], M1)) rfl ?_
    exact pm_irL rfl rfl
  · refine pm_irun 1 (σ' := (8, [some (.ref 0), some (.int a1), some (.int a2), some (.int a3), none, none], [.int a2], M1)) rfl ?_
    refine pm_iite (σ1 := (33, [some (.ref 0), some (.int a1), some (.int a2), some (.int a3), none, none], [], M1)) (σ2 := (11, [some (.ref 0), some (.int a1), some (.int a2), some (.int a3), none, none], [], M1)) rfl (fun _ => ?_) (fun _ => ?_)
    · refine pm_irun 1 (σ' := (36, [some (.ref 0), some (.int a1), some (.int a2), some (.int a3), none, none], [.long (-4611686018427387904 : Int64)], M1)) rfl ?_
      exact pm_irL rfl rfl
    · refine pm_irun 2 (σ' := (13, [some (.ref 0), some (.int a1), some (.int a2), some (.int a3), none, none], [.int (4 : Int32), .int a2], M1)) rfl ?_
      refine pm_iite (σ1 := (33, [some (.ref 0), some (.int a1), some (.int a2), some (.int a3), none, none], [], M1)) (σ2 := (16, [some (.ref 0), some (.int a1), some (.int a2), some (.int a3), none, none], [], M1)) rfl (fun _ => ?_) (fun _ => ?_)
      · refine pm_irun 1 (σ' := (36, [some (.ref 0), some (.int a1), some (.int a2), some (.int a3), none, none], [.long (-4611686018427387904 : Int64)], M1)) rfl ?_
        exact pm_irL rfl rfl
      · refine pm_irun 1 (σ' := (17, [some (.ref 0), some (.int a1), some (.int a2), some (.int a3), none, none], [.int a3], M1)) rfl ?_
        refine pm_icI (as := [.int a3]) (rest := []) rfl rfl rfl rfl (Nat.le_of_ble_eq_true rfl) rfl (fun r h => pm_Ev_mono (Nat.le_of_ble_eq_true rfl) (sC_isLine_ok a3 M1 r h)) (fun v4 M3 => ?_)
        show pm_Im _ _ _ _ _ _ (20, [some (.ref 0), some (.int a1), some (.int a2), some (.int a3), none, none], [.int v4], M3)
        refine pm_iite (σ1 := (33, [some (.ref 0), some (.int a1), some (.int a2), some (.int a3), none, none], [], M3)) (σ2 := (23, [some (.ref 0), some (.int a1), some (.int a2), some (.int a3), none, none], [], M3)) rfl (fun _ => ?_) (fun _ => ?_)
        · refine pm_irun 1 (σ' := (36, [some (.ref 0), some (.int a1), some (.int a2), some (.int a3), none, none], [.long (-4611686018427387904 : Int64)], M3)) rfl ?_
          exact pm_irL rfl rfl
        · refine pm_irun 2 (σ' := (27, [some (.ref 0), some (.int a1), some (.int a2), some (.int a3), none, none], [.ref 15], M3)) rfl ?_
          refine pm_icI (as := [.ref 15]) (rest := []) rfl rfl rfl rfl (Nat.le_of_ble_eq_true rfl) rfl (fun r h => pm_Ev_mono (Nat.le_of_ble_eq_true rfl) (sTours_isSound_ok M3 r h)) (fun v6 M5 => ?_)
          show pm_Im _ _ _ _ _ _ (30, [some (.ref 0), some (.int a1), some (.int a2), some (.int a3), none, none], [.int v6], M5)
          refine pm_iite (σ1 := (37, [some (.ref 0), some (.int a1), some (.int a2), some (.int a3), none, none], [], M5)) (σ2 := (33, [some (.ref 0), some (.int a1), some (.int a2), some (.int a3), none, none], [], M5)) rfl (fun _ => ?_) (fun _ => ?_)
          · refine pm_irun 4 (σ' := (45, [some (.ref 0), some (.int a1), some (.int a2), some (.int a3), none, none], [.int a1, .ref 5], M5)) rfl ?_
            refine pm_igd (σ1 := (46, [some (.ref 0), some (.int a1), some (.int a2), some (.int a3), none, none], [.int (M5.1 5 a1.toNatClampNeg)], M5)) rfl (fun _ => ?_)
            refine pm_irun 1 (σ' := (48, [some (.ref 0), some (.int a1), some (.int a2), some (.int a3), some (.int (M5.1 5 a1.toNatClampNeg)), none], [], M5)) rfl ?_
            refine pm_ilt (fun y => (48, [some (.ref 0), some (.int a1), some (.int a2), some (.int a3), some (.int y), none], [], M5)) (fun x7 => ?_)
            refine pm_irun 6 (σ' := (58, [some (.ref 0), some (.int a1), some (.int a2), some (.int a3), some (.int x7), none], [.int ((1 : Int32) - a1), .ref 5], M5)) rfl ?_
            refine pm_igd (σ1 := (59, [some (.ref 0), some (.int a1), some (.int a2), some (.int a3), some (.int x7), none], [.int (M5.1 5 ((1 : Int32) - a1).toNatClampNeg)], M5)) rfl (fun _ => ?_)
            refine pm_irun 1 (σ' := (61, [some (.ref 0), some (.int a1), some (.int a2), some (.int a3), some (.int x7), some (.int (M5.1 5 ((1 : Int32) - a1).toNatClampNeg))], [], M5)) rfl ?_
            refine pm_ilt (fun y => (61, [some (.ref 0), some (.int a1), some (.int a2), some (.int a3), some (.int x7), some (.int y)], [], M5)) (fun x8 => ?_)
            refine pm_irun 1 (σ' := (63, [some (.ref 0), some (.int a1), some (.int a2), some (.int a3), some (.int x7), some (.int x8)], [.int x7], M5)) rfl ?_
            refine pm_iite (σ1 := (84, [some (.ref 0), some (.int a1), some (.int a2), some (.int a3), some (.int x7), some (.int x8)], [], M5)) (σ2 := (66, [some (.ref 0), some (.int a1), some (.int a2), some (.int a3), some (.int x7), some (.int x8)], [], M5)) rfl (fun _ => ?_) (fun _ => ?_)
            · refine pm_irun 1 (σ' := (85, [some (.ref 0), some (.int a1), some (.int a2), some (.int a3), some (.int x7), some (.int x8)], [.int a2], M5)) rfl ?_
              refine pm_irun 1 (σ' := (pm_sw a2 178 [0, 116, 1, 127, 2, 137, 3, 171], [some (.ref 0), some (.int a1), some (.int a2), some (.int a3), some (.int x7), some (.int x8)], [], M5)) rfl ?_
              refine pm_isw (fun _ => ?_) (fun _ => ?_)
              · show pm_Im _ _ _ _ _ _ (116, [some (.ref 0), some (.int a1), some (.int a2), some (.int a3), some (.int x7), some (.int x8)], [], M5)
                refine pm_irun 5 (σ' := (123, [some (.ref 0), some (.int a1), some (.int a2), some (.int a3), some (.int x7), some (.int x8)], [.int a3, .int x8, .int x7, .int a1, .ref 0], M5)) rfl ?_
                refine pm_icL (as := [.ref 0, .int a1, .int x7, .int x8, .int a3]) (rest := []) rfl rfl rfl rfl (Nat.le_of_ble_eq_true rfl) rfl (fun r h => pm_Ev_mono (Nat.le_of_ble_eq_true rfl) (sC_rateOf_ok a1 x7 x8 a3 M5 r h)) (fun v10 M9 => ?_)
                show pm_Im _ _ _ _ _ _ (126, [some (.ref 0), some (.int a1), some (.int a2), some (.int a3), some (.int x7), some (.int x8)], [.long v10], M9)
                exact pm_irL rfl rfl
              refine pm_isw (fun _ => ?_) (fun _ => ?_)
              · show pm_Im _ _ _ _ _ _ (127, [some (.ref 0), some (.int a1), some (.int a2), some (.int a3), some (.int x7), some (.int x8)], [], M5)
                refine pm_irun 5 (σ' := (133, [some (.ref 0), some (.int a1), some (.int a2), some (.int a3), some (.int x7), some (.int x8)], [.int a3, .int (0 : Int32), .int x7, .int a1, .ref 0], M5)) rfl ?_
                refine pm_icL (as := [.ref 0, .int a1, .int x7, .int (0 : Int32), .int a3]) (rest := []) rfl rfl rfl rfl (Nat.le_of_ble_eq_true rfl) rfl (fun r h => pm_Ev_mono (Nat.le_of_ble_eq_true rfl) (sC_rateOf_ok a1 x7 (0 : Int32) a3 M5 r h)) (fun v12 M11 => ?_)
                show pm_Im _ _ _ _ _ _ (136, [some (.ref 0), some (.int a1), some (.int a2), some (.int a3), some (.int x7), some (.int x8)], [.long v12], M11)
                exact pm_irL rfl rfl
              refine pm_isw (fun _ => ?_) (fun _ => ?_)
              · show pm_Im _ _ _ _ _ _ (137, [some (.ref 0), some (.int a1), some (.int a2), some (.int a3), some (.int x7), some (.int x8)], [], M5)
                refine pm_irun 2 (σ' := (141, [some (.ref 0), some (.int a1), some (.int a2), some (.int a3), some (.int x7), some (.int x8)], [.int (6 : Int32), .int x7], M5)) rfl ?_
                refine pm_iite (σ1 := (154, [some (.ref 0), some (.int a1), some (.int a2), some (.int a3), some (.int x7), some (.int x8)], [], M5)) (σ2 := (144, [some (.ref 0), some (.int a1), some (.int a2), some (.int a3), some (.int x7), some (.int x8)], [], M5)) rfl (fun _ => ?_) (fun _ => ?_)
                · refine pm_irun 1 (σ' := (157, [some (.ref 0), some (.int a1), some (.int a2), some (.int a3), some (.int x7), some (.int x8)], [.long (-4611686018427387904 : Int64)], M5)) rfl ?_
                  exact pm_irL rfl rfl
                · refine pm_irun 4 (σ' := (151, [some (.ref 0), some (.int a1), some (.int a2), some (.int a3), some (.int x7), some (.int x8)], [.int (8 : Int32), .int (x7 + x8)], M5)) rfl ?_
                  refine pm_iite (σ1 := (158, [some (.ref 0), some (.int a1), some (.int a2), some (.int a3), some (.int x7), some (.int x8)], [], M5)) (σ2 := (154, [some (.ref 0), some (.int a1), some (.int a2), some (.int a3), some (.int x7), some (.int x8)], [], M5)) rfl (fun _ => ?_) (fun _ => ?_)
                  · refine pm_irun 7 (σ' := (167, [some (.ref 0), some (.int a1), some (.int a2), some (.int a3), some (.int x7), some (.int x8)], [.int a3, .int x8, .int (x7 + (1 : Int32)), .int a1, .ref 0], M5)) rfl ?_
                    refine pm_icL (as := [.ref 0, .int a1, .int (x7 + (1 : Int32)), .int x8, .int a3]) (rest := []) rfl rfl rfl rfl (Nat.le_of_ble_eq_true rfl) rfl (fun r h => pm_Ev_mono (Nat.le_of_ble_eq_true rfl) (sC_rateOf_ok a1 (x7 + (1 : Int32)) x8 a3 M5 r h)) (fun v14 M13 => ?_)
                    show pm_Im _ _ _ _ _ _ (170, [some (.ref 0), some (.int a1), some (.int a2), some (.int a3), some (.int x7), some (.int x8)], [.long v14], M13)
                    exact pm_irL rfl rfl
                  · refine pm_irun 1 (σ' := (157, [some (.ref 0), some (.int a1), some (.int a2), some (.int a3), some (.int x7), some (.int x8)], [.long (-4611686018427387904 : Int64)], M5)) rfl ?_
                    exact pm_irL rfl rfl
              refine pm_isw (fun _ => ?_) (fun _ => ?_)
              · show pm_Im _ _ _ _ _ _ (171, [some (.ref 0), some (.int a1), some (.int a2), some (.int a3), some (.int x7), some (.int x8)], [], M5)
                refine pm_irun 3 (σ' := (174, [some (.ref 0), some (.int a1), some (.int a2), some (.int a3), some (.int x7), some (.int x8)], [.int a3, .int a1, .ref 0], M5)) rfl ?_
                refine pm_icL (as := [.ref 0, .int a1, .int a3]) (rest := []) rfl rfl rfl rfl (Nat.le_of_ble_eq_true rfl) rfl (fun r h => pm_Ev_mono (Nat.le_of_ble_eq_true rfl) (sC_limitAbove_ok a1 a3 M5 r h)) (fun v16 M15 => ?_)
                show pm_Im _ _ _ _ _ _ (177, [some (.ref 0), some (.int a1), some (.int a2), some (.int a3), some (.int x7), some (.int x8)], [.long v16], M15)
                exact pm_irL rfl rfl
              show pm_Im _ _ _ _ _ _ (178, [some (.ref 0), some (.int a1), some (.int a2), some (.int a3), some (.int x7), some (.int x8)], [], M5)
              refine pm_irun 3 (σ' := (181, [some (.ref 0), some (.int a1), some (.int a2), some (.int a3), some (.int x7), some (.int x8)], [.int a3, .int a1, .ref 0], M5)) rfl ?_
              refine pm_icL (as := [.ref 0, .int a1, .int a3]) (rest := []) rfl rfl rfl rfl (Nat.le_of_ble_eq_true rfl) rfl (fun r h => pm_Ev_mono (Nat.le_of_ble_eq_true rfl) (sC_limitBelow_ok a1 a3 M5 r h)) (fun v18 M17 => ?_)
              show pm_Im _ _ _ _ _ _ (184, [some (.ref 0), some (.int a1), some (.int a2), some (.int a3), some (.int x7), some (.int x8)], [.long v18], M17)
              exact pm_irL rfl rfl
            · refine pm_irun 2 (σ' := (68, [some (.ref 0), some (.int a1), some (.int a2), some (.int a3), some (.int x7), some (.int x8)], [.int (2 : Int32), .int a2], M5)) rfl ?_
              refine pm_iite (σ1 := (80, [some (.ref 0), some (.int a1), some (.int a2), some (.int a3), some (.int x7), some (.int x8)], [], M5)) (σ2 := (71, [some (.ref 0), some (.int a1), some (.int a2), some (.int a3), some (.int x7), some (.int x8)], [], M5)) rfl (fun _ => ?_) (fun _ => ?_)
              · refine pm_irun 1 (σ' := (83, [some (.ref 0), some (.int a1), some (.int a2), some (.int a3), some (.int x7), some (.int x8)], [.long (-4611686018427387904 : Int64)], M5)) rfl ?_
                exact pm_irL rfl rfl
              · refine pm_irun 3 (σ' := (74, [some (.ref 0), some (.int a1), some (.int a2), some (.int a3), some (.int x7), some (.int x8)], [.int a3, .long (1 : Int64), .long (0 : Int64)], M5)) rfl ?_
                refine pm_icL (as := [.long (0 : Int64), .long (1 : Int64), .int a3]) (rest := []) rfl rfl rfl rfl (Nat.le_of_ble_eq_true rfl) rfl (fun r h => pm_Ev_mono (Nat.le_of_ble_eq_true rfl) (sC_fraction_ok (0 : Int64) (1 : Int64) a3 M5 r h)) (fun v20 M19 => ?_)
                show pm_Im _ _ _ _ _ _ (77, [some (.ref 0), some (.int a1), some (.int a2), some (.int a3), some (.int x7), some (.int x8)], [.long v20], M19)
                refine pm_irun 1 (σ' := (83, [some (.ref 0), some (.int a1), some (.int a2), some (.int a3), some (.int x7), some (.int x8)], [.long v20], M19)) rfl ?_
                exact pm_irL rfl rfl
          · refine pm_irun 1 (σ' := (36, [some (.ref 0), some (.int a1), some (.int a2), some (.int a3), none, none], [.long (-4611686018427387904 : Int64)], M5)) rfl ?_
            exact pm_irL rfl rfl
def sR_rateAbove (a1 : Int32) (a2 : Int32) (a3 : Int32) (M : pm_M) : Option (Int64 × pm_M) := if ¬ a1 = 0 then (pm_bd (sR_whole a2 (a3 - (1 : Int32)) M) fun v2 M1 => some ((a3.toInt64 * v2), M1)) else (pm_bd (sR_whole (a2 - (1 : Int32)) a3 M) fun v4 M3 => some ((a2.toInt64 * v4), M3))
abbrev I_R_rateAbove (sh : Option (Int64 × pm_M)) (σ : pm_St) : Prop := pm_Im none (pm_Ev 1) pm_T166 (some .long) pm_rL sh σ
set_option maxHeartbeats 4000000 in
set_option maxRecDepth 100000 in
theorem sR_rateAbove_ok (a1 : Int32) (a2 : Int32) (a3 : Int32) (M : pm_M) : ∀ r, sR_rateAbove a1 a2 a3 M = some r → pm_Ev 2 166 [.ref 49, .int a1, .int a2, .int a3] M (pm_rL r).1 (pm_rL r).2 := by
  refine pm_meth (al := [some (.ref 49), some (.int a1), some (.int a2), some (.int a3)]) rfl rfl rfl rfl rfl ?_
  unfold sR_rateAbove
  show I_R_rateAbove _ (0, [some (.ref 49), some (.int a1), some (.int a2), some (.int a3)], [], M)
  refine pm_irun 1 (σ' := (1, [some (.ref 49), some (.int a1), some (.int a2), some (.int a3)], [.int a1], M)) rfl ?_
  refine pm_iite (σ1 := (18, [some (.ref 49), some (.int a1), some (.int a2), some (.int a3)], [], M)) (σ2 := (4, [some (.ref 49), some (.int a1), some (.int a2), some (.int a3)], [], M)) rfl (fun _ => ?_) (fun _ => ?_)
  · refine pm_irun 7 (σ' := (25, [some (.ref 49), some (.int a1), some (.int a2), some (.int a3)], [.int (a3 - (1 : Int32)), .int a2, .ref 49, .long a3.toInt64], M)) rfl ?_
    refine pm_icL (as := [.ref 49, .int a2, .int (a3 - (1 : Int32))]) (rest := [.long a3.toInt64]) rfl rfl rfl rfl (Nat.le_of_ble_eq_true rfl) rfl (fun r h => pm_Ev_mono (Nat.le_of_ble_eq_true rfl) (sR_whole_ok a2 (a3 - (1 : Int32)) M r h)) (fun v2 M1 => ?_)
    show pm_Im _ _ _ _ _ _ (28, [some (.ref 49), some (.int a1), some (.int a2), some (.int a3)], [.long v2, .long a3.toInt64], M1)
    refine pm_irun 1 (σ' := (29, [some (.ref 49), some (.int a1), some (.int a2), some (.int a3)], [.long (a3.toInt64 * v2)], M1)) rfl ?_
    exact pm_irL rfl rfl
  · refine pm_irun 7 (σ' := (11, [some (.ref 49), some (.int a1), some (.int a2), some (.int a3)], [.int a3, .int (a2 - (1 : Int32)), .ref 49, .long a2.toInt64], M)) rfl ?_
    refine pm_icL (as := [.ref 49, .int (a2 - (1 : Int32)), .int a3]) (rest := [.long a2.toInt64]) rfl rfl rfl rfl (Nat.le_of_ble_eq_true rfl) rfl (fun r h => pm_Ev_mono (Nat.le_of_ble_eq_true rfl) (sR_whole_ok (a2 - (1 : Int32)) a3 M r h)) (fun v4 M3 => ?_)
    show pm_Im _ _ _ _ _ _ (14, [some (.ref 49), some (.int a1), some (.int a2), some (.int a3)], [.long v4, .long a2.toInt64], M3)
    refine pm_irun 2 (σ' := (29, [some (.ref 49), some (.int a1), some (.int a2), some (.int a3)], [.long (a2.toInt64 * v4)], M3)) rfl ?_
    exact pm_irL rfl rfl
def sR_all (a1 : Int32) (a2 : Int32) (M : pm_M) : Option (Int64 × pm_M) := pm_loop (fun _ _ _ => none) (fun (g1 : Int64 → Int32 → pm_M → Option (Int64 × pm_M)) x3 x4 M2 => if (M2.1 49 1) ≤ x4 then (some (x3, M2)) else (if pm_in x4 5 then (pm_jn (fun (q7 : Int32) (M6 : pm_M) => if ¬ q7 = a2 then (pm_lt ((x4 + (1 : Int32))) fun x8 => g1 x3 x8 M6) else (if pm_in (((5 : Int32) * a1) + x4) 10 then (pm_lt ((x3 + (M6.2 60 (((5 : Int32) * a1) + x4).toNatClampNeg))) fun x9 => pm_lt ((x4 + (1 : Int32))) fun x10 => g1 x9 x10 M6) else none)) fun (j5 : Int32 → pm_M → Option (Int64 × pm_M)) => if ¬ (M2.1 50 x4.toNatClampNeg) = (3 : Int32) then (j5 (0 : Int32) M2) else (j5 (1 : Int32) M2)) else none)) 1000000 (0 : Int64) (0 : Int32) M
abbrev I_R_all (sh : Option (Int64 × pm_M)) (σ : pm_St) : Prop := pm_Im none (pm_Ev 0) pm_T167 (some .long) pm_rL sh σ
set_option maxHeartbeats 4000000 in
set_option maxRecDepth 100000 in
theorem sR_all_ok (a1 : Int32) (a2 : Int32) (M : pm_M) : ∀ r, sR_all a1 a2 M = some r → pm_Ev 1 167 [.ref 49, .int a1, .int a2] M (pm_rL r).1 (pm_rL r).2 := by
  refine pm_meth (al := [some (.ref 49), some (.int a1), some (.int a2), none, none, none]) rfl rfl rfl rfl rfl ?_
  unfold sR_all
  show I_R_all _ (0, [some (.ref 49), some (.int a1), some (.int a2), none, none, none], [], M)
  refine pm_irun 2 (σ' := (2, [some (.ref 49), some (.int a1), some (.int a2), some (.long (0 : Int64)), none, none], [], M)) rfl ?_
  refine pm_irun 2 (σ' := (5, [some (.ref 49), some (.int a1), some (.int a2), some (.long (0 : Int64)), none, some (.int (0 : Int32))], [], M)) rfl ?_
  refine pm_iloop (fun (g : Int64 → Int32 → pm_M → Option (Int64 × pm_M)) => ∀ (x3 : Int64) (x4 : Int32) (M2 : pm_M), I_R_all (g x3 x4 M2) (5, [some (.ref 49), some (.int a1), some (.int a2), some (.long x3), none, some (.int x4)], [], M2)) (fun _ _ _ => pm_inone) (fun g1 hg1 x3 x4 M2 => ?_) 1000000 _ _ _
  show I_R_all _ (5, [some (.ref 49), some (.int a1), some (.int a2), some (.long x3), none, some (.int x4)], [], M2)
  refine pm_irun 3 (σ' := (11, [some (.ref 49), some (.int a1), some (.int a2), some (.long x3), none, some (.int x4)], [.int (M2.1 49 1), .int x4], M2)) rfl ?_
  refine pm_iite (σ1 := (54, [some (.ref 49), some (.int a1), some (.int a2), some (.long x3), none, some (.int x4)], [], M2)) (σ2 := (14, [some (.ref 49), some (.int a1), some (.int a2), some (.long x3), none, some (.int x4)], [], M2)) rfl (fun _ => ?_) (fun _ => ?_)
  · refine pm_irun 1 (σ' := (55, [some (.ref 49), some (.int a1), some (.int a2), some (.long x3), none, some (.int x4)], [.long x3], M2)) rfl ?_
    exact pm_irL rfl rfl
  · refine pm_irun 3 (σ' := (20, [some (.ref 49), some (.int a1), some (.int a2), some (.long x3), none, some (.int x4)], [.int x4, .ref 50], M2)) rfl ?_
    refine pm_igd (σ1 := (21, [some (.ref 49), some (.int a1), some (.int a2), some (.long x3), none, some (.int x4)], [.int (M2.1 50 x4.toNatClampNeg)], M2)) rfl (fun _ => ?_)
    refine pm_irun 1 (σ' := (22, [some (.ref 49), some (.int a1), some (.int a2), some (.long x3), none, some (.int x4)], [.int (3 : Int32), .int (M2.1 50 x4.toNatClampNeg)], M2)) rfl ?_
    refine pm_ijn (fun (g : Int32 → pm_M → Option (Int64 × pm_M)) => ∀ (q7 : Int32) (M6 : pm_M), I_R_all (g q7 M6) (30, [some (.ref 49), some (.int a1), some (.int a2), some (.long x3), none, some (.int x4)], [.int q7], M6)) (fun (q7 : Int32) (M6 : pm_M) => ?_) (fun j5 hj5 => ?_)
    · show I_R_all _ (30, [some (.ref 49), some (.int a1), some (.int a2), some (.long x3), none, some (.int x4)], [.int q7], M6)
      refine pm_irun 1 (σ' := (31, [some (.ref 49), some (.int a1), some (.int a2), some (.long x3), none, some (.int x4)], [.int a2, .int q7], M6)) rfl ?_
      refine pm_iite (σ1 := (48, [some (.ref 49), some (.int a1), some (.int a2), some (.long x3), none, some (.int x4)], [], M6)) (σ2 := (34, [some (.ref 49), some (.int a1), some (.int a2), some (.long x3), none, some (.int x4)], [], M6)) rfl (fun _ => ?_) (fun _ => ?_)
      · refine pm_irun 1 (σ' := (51, [some (.ref 49), some (.int a1), some (.int a2), some (.long x3), none, some (.int (x4 + (1 : Int32)))], [], M6)) rfl ?_
        refine pm_ilt (fun y => (51, [some (.ref 49), some (.int a1), some (.int a2), some (.long x3), none, some (.int y)], [], M6)) (fun x8 => ?_)
        refine pm_irun 1 (σ' := (5, [some (.ref 49), some (.int a1), some (.int a2), some (.long x3), none, some (.int x8)], [], M6)) rfl ?_
        exact hg1 _ _ _
      · refine pm_irun 8 (σ' := (45, [some (.ref 49), some (.int a1), some (.int a2), some (.long x3), none, some (.int x4)], [.int (((5 : Int32) * a1) + x4), .ref 60, .long x3], M6)) rfl ?_
        refine pm_igd (σ1 := (46, [some (.ref 49), some (.int a1), some (.int a2), some (.long x3), none, some (.int x4)], [.long (M6.2 60 (((5 : Int32) * a1) + x4).toNatClampNeg), .long x3], M6)) rfl (fun _ => ?_)
        refine pm_irun 2 (σ' := (48, [some (.ref 49), some (.int a1), some (.int a2), some (.long (x3 + (M6.2 60 (((5 : Int32) * a1) + x4).toNatClampNeg))), none, some (.int x4)], [], M6)) rfl ?_
        refine pm_ilt (fun y => (48, [some (.ref 49), some (.int a1), some (.int a2), some (.long y), none, some (.int x4)], [], M6)) (fun x9 => ?_)
        refine pm_irun 1 (σ' := (51, [some (.ref 49), some (.int a1), some (.int a2), some (.long x9), none, some (.int (x4 + (1 : Int32)))], [], M6)) rfl ?_
        refine pm_ilt (fun y => (51, [some (.ref 49), some (.int a1), some (.int a2), some (.long x9), none, some (.int y)], [], M6)) (fun x10 => ?_)
        refine pm_irun 1 (σ' := (5, [some (.ref 49), some (.int a1), some (.int a2), some (.long x9), none, some (.int x10)], [], M6)) rfl ?_
        exact hg1 _ _ _
    refine pm_iite (σ1 := (29, [some (.ref 49), some (.int a1), some (.int a2), some (.long x3), none, some (.int x4)], [], M2)) (σ2 := (25, [some (.ref 49), some (.int a1), some (.int a2), some (.long x3), none, some (.int x4)], [], M2)) rfl (fun _ => ?_) (fun _ => ?_)
    · refine pm_irun 1 (σ' := (30, [some (.ref 49), some (.int a1), some (.int a2), some (.long x3), none, some (.int x4)], [.int (0 : Int32)], M2)) rfl ?_
      exact hj5 _ _
    · refine pm_irun 2 (σ' := (30, [some (.ref 49), some (.int a1), some (.int a2), some (.long x3), none, some (.int x4)], [.int (1 : Int32)], M2)) rfl ?_
      exact hj5 _ _
def sR_limit (a1 : Int32) (a2 : Int32) (a3 : Int32) (M : pm_M) : Option (Int64 × pm_M) := pm_bd (sR_all a1 (0 : Int32) M) fun v2 M1 => pm_bd (sR_all a1 (1 : Int32) M1) fun v4 M3 => if pm_in a1 2 then (pm_lt ((M3.1 53 a1.toNatClampNeg).toInt64) fun x5 => if ¬ a2 = (4 : Int32) then (pm_loop (fun _ _ _ => none) (fun (g6 : Int64 → Int32 → pm_M → Option (Int64 × pm_M)) x8 x9 M7 => if (M7.1 49 1) ≤ x9 then (pm_jn (fun (M11 : pm_M) => pm_bd (sR_part x5 (v2 + v4) a3 M11) fun v13 M12 => some (v13, M12)) fun (j10 : pm_M → Option (Int64 × pm_M)) => if (lg_cmp x8 (0 : Int64)) ≤ 0 then (j10 M7) else (if 0 ≤ (lg_cmp (v2 + v4) (x5 * x8)) then (j10 M7) else (pm_bd (sR_part (1 : Int64) x8 a3 M7) fun v15 M14 => some (v15, M14)))) else (if pm_in x9 5 then (if (M7.1 50 x9.toNatClampNeg) = (3 : Int32) then (pm_lt ((x9 + (1 : Int32))) fun x16 => g6 x8 x16 M7) else (if pm_in (((5 : Int32) * a1) + x9) 10 then (if (lg_cmp (M7.2 60 (((5 : Int32) * a1) + x9).toNatClampNeg) x8) ≤ 0 then (pm_lt ((x9 + (1 : Int32))) fun x17 => g6 x8 x17 M7) else (if pm_in (((5 : Int32) * a1) + x9) 10 then (pm_lt ((M7.2 60 (((5 : Int32) * a1) + x9).toNatClampNeg)) fun x18 => pm_lt ((x9 + (1 : Int32))) fun x19 => g6 x18 x19 M7) else none)) else none)) else none)) 1000000 (0 : Int64) (0 : Int32) M3) else (pm_bd (sR_part x5 ((x5 * v2) + v4) a3 M3) fun v21 M20 => some (v21, M20))) else none
abbrev I_R_limit (sh : Option (Int64 × pm_M)) (σ : pm_St) : Prop := pm_Im none (pm_Ev 2) pm_T168 (some .long) pm_rL sh σ
set_option maxHeartbeats 4000000 in
set_option maxRecDepth 100000 in
theorem sR_limit_ok (a1 : Int32) (a2 : Int32) (a3 : Int32) (M : pm_M) : ∀ r, sR_limit a1 a2 a3 M = some r → pm_Ev 3 168 [.ref 49, .int a1, .int a2, .int a3] M (pm_rL r).1 (pm_rL r).2 := by
  refine pm_meth (al := [some (.ref 49), some (.int a1), some (.int a2), some (.int a3), none, none, none, none, none, none, none, none, none]) rfl rfl rfl rfl rfl ?_
  unfold sR_limit
  show I_R_limit _ (0, [some (.ref 49), some (.int a1), some (.int a2), some (.int a3), none, none, none, none, none, none, none, none, none], [], M)
  refine pm_irun 3 (σ' := (3, [some (.ref 49), some (.int a1), some (.int a2), some (.int a3), none, none, none, none, none, none, none, none, none], [.int (0 : Int32), .int a1, .ref 49], M)) rfl ?_
  refine pm_icL (as := [.ref 49, .int a1, .int (0 : Int32)]) (rest := []) rfl rfl rfl rfl (Nat.le_of_ble_eq_true rfl) rfl (fun r h => pm_Ev_mono (Nat.le_of_ble_eq_true rfl) (sR_all_ok a1 (0 : Int32) M r h)) (fun v2 M1 => ?_)
  show pm_Im _ _ _ _ _ _ (6, [some (.ref 49), some (.int a1), some (.int a2), some (.int a3), none, none, none, none, none, none, none, none, none], [.long v2], M1)
  refine pm_irun 1 (σ' := (8, [some (.ref 49), some (.int a1), some (.int a2), some (.int a3), some (.long v2), none, none, none, none, none, none, none, none], [], M1)) rfl ?_
  refine pm_irun 3 (σ' := (11, [some (.ref 49), some (.int a1), some (.int a2), some (.int a3), some (.long v2), none, none, none, none, none, none, none, none], [.int (1 : Int32), .int a1, .ref 49], M1)) rfl ?_
  refine pm_icL (as := [.ref 49, .int a1, .int (1 : Int32)]) (rest := []) rfl rfl rfl rfl (Nat.le_of_ble_eq_true rfl) rfl (fun r h => pm_Ev_mono (Nat.le_of_ble_eq_true rfl) (sR_all_ok a1 (1 : Int32) M1 r h)) (fun v4 M3 => ?_)
  show pm_Im _ _ _ _ _ _ (14, [some (.ref 49), some (.int a1), some (.int a2), some (.int a3), some (.long v2), none, none, none, none, none, none, none, none], [.long v4], M3)
  refine pm_irun 1 (σ' := (16, [some (.ref 49), some (.int a1), some (.int a2), some (.int a3), some (.long v2), none, some (.long v4), none, none, none, none, none, none], [], M3)) rfl ?_
  refine pm_irun 3 (σ' := (21, [some (.ref 49), some (.int a1), some (.int a2), some (.int a3), some (.long v2), none, some (.long v4), none, none, none, none, none, none], [.int a1, .ref 53], M3)) rfl ?_
  refine pm_igd (σ1 := (22, [some (.ref 49), some (.int a1), some (.int a2), some (.int a3), some (.long v2), none, some (.long v4), none, none, none, none, none, none], [.int (M3.1 53 a1.toNatClampNeg)], M3)) rfl (fun _ => ?_)
  refine pm_irun 2 (σ' := (25, [some (.ref 49), some (.int a1), some (.int a2), some (.int a3), some (.long v2), none, some (.long v4), none, some (.long (M3.1 53 a1.toNatClampNeg).toInt64), none, none, none, none], [], M3)) rfl ?_
  refine pm_ilt (fun y => (25, [some (.ref 49), some (.int a1), some (.int a2), some (.int a3), some (.long v2), none, some (.long v4), none, some (.long y), none, none, none, none], [], M3)) (fun x5 => ?_)
  refine pm_irun 2 (σ' := (27, [some (.ref 49), some (.int a1), some (.int a2), some (.int a3), some (.long v2), none, some (.long v4), none, some (.long x5), none, none, none, none], [.int (4 : Int32), .int a2], M3)) rfl ?_
  refine pm_iite (σ1 := (45, [some (.ref 49), some (.int a1), some (.int a2), some (.int a3), some (.long v2), none, some (.long v4), none, some (.long x5), none, none, none, none], [], M3)) (σ2 := (30, [some (.ref 49), some (.int a1), some (.int a2), some (.int a3), some (.long v2), none, some (.long v4), none, some (.long x5), none, none, none, none], [], M3)) rfl (fun _ => ?_) (fun _ => ?_)
  · refine pm_irun 2 (σ' := (48, [some (.ref 49), some (.int a1), some (.int a2), some (.int a3), some (.long v2), none, some (.long v4), none, some (.long x5), none, some (.long (0 : Int64)), none, none], [], M3)) rfl ?_
    refine pm_irun 2 (σ' := (51, [some (.ref 49), some (.int a1), some (.int a2), some (.int a3), some (.long v2), none, some (.long v4), none, some (.long x5), none, some (.long (0 : Int64)), none, some (.int (0 : Int32))], [], M3)) rfl ?_
    refine pm_iwk (al' := [some (.ref 49), some (.int a1), none, some (.int a3), some (.long v2), none, some (.long v4), none, some (.long x5), none, some (.long (0 : Int64)), none, some (.int (0 : Int32))]) (pm_wkS (pm_wkS (pm_wkN (pm_wkS (pm_wkS (pm_wkS (pm_wkS (pm_wkS (pm_wkS (pm_wkS (pm_wkS (pm_wkS (pm_wkS pm_wk0))))))))))))) ?_
    refine pm_iloop (fun (g : Int64 → Int32 → pm_M → Option (Int64 × pm_M)) => ∀ (x8 : Int64) (x9 : Int32) (M7 : pm_M), I_R_limit (g x8 x9 M7) (51, [some (.ref 49), some (.int a1), none, some (.int a3), some (.long v2), none, some (.long v4), none, some (.long x5), none, some (.long x8), none, some (.int x9)], [], M7)) (fun _ _ _ => pm_inone) (fun g6 hg6 x8 x9 M7 => ?_) 1000000 _ _ _
    show I_R_limit _ (51, [some (.ref 49), some (.int a1), none, some (.int a3), some (.long v2), none, some (.long v4), none, some (.long x5), none, some (.long x8), none, some (.int x9)], [], M7)
    refine pm_irun 3 (σ' := (57, [some (.ref 49), some (.int a1), none, some (.int a3), some (.long v2), none, some (.long v4), none, some (.long x5), none, some (.long x8), none, some (.int x9)], [.int (M7.1 49 1), .int x9], M7)) rfl ?_
    refine pm_iite (σ1 := (107, [some (.ref 49), some (.int a1), none, some (.int a3), some (.long v2), none, some (.long v4), none, some (.long x5), none, some (.long x8), none, some (.int x9)], [], M7)) (σ2 := (60, [some (.ref 49), some (.int a1), none, some (.int a3), some (.long v2), none, some (.long v4), none, some (.long x5), none, some (.long x8), none, some (.int x9)], [], M7)) rfl (fun _ => ?_) (fun _ => ?_)
    · refine pm_irun 3 (σ' := (111, [some (.ref 49), some (.int a1), none, some (.int a3), some (.long v2), none, some (.long v4), none, some (.long x5), none, some (.long x8), none, some (.int x9)], [.int (lg_cmp x8 (0 : Int64))], M7)) rfl ?_
      refine pm_ijn (fun (g : pm_M → Option (Int64 × pm_M)) => ∀ (M11 : pm_M), I_R_limit (g M11) (138, [none, none, none, some (.int a3), some (.long v2), none, some (.long v4), none, some (.long x5), none, none, none, none], [], M11)) (fun (M11 : pm_M) => ?_) (fun j10 hj10 => ?_)
      · show I_R_limit _ (138, [none, none, none, some (.int a3), some (.long v2), none, some (.long v4), none, some (.long x5), none, none, none, none], [], M11)
        refine pm_irun 5 (σ' := (146, [none, none, none, some (.int a3), some (.long v2), none, some (.long v4), none, some (.long x5), none, none, none, none], [.int a3, .long (v2 + v4), .long x5], M11)) rfl ?_
        refine pm_icL (as := [.long x5, .long (v2 + v4), .int a3]) (rest := []) rfl rfl rfl rfl (Nat.le_of_ble_eq_true rfl) rfl (fun r h => pm_Ev_mono (Nat.le_of_ble_eq_true rfl) (sR_part_ok x5 (v2 + v4) a3 M11 r h)) (fun v13 M12 => ?_)
        show pm_Im _ _ _ _ _ _ (149, [none, none, none, some (.int a3), some (.long v2), none, some (.long v4), none, some (.long x5), none, none, none, none], [.long v13], M12)
        exact pm_irL rfl rfl
      refine pm_iite (σ1 := (138, [some (.ref 49), some (.int a1), none, some (.int a3), some (.long v2), none, some (.long v4), none, some (.long x5), none, some (.long x8), none, some (.int x9)], [], M7)) (σ2 := (114, [some (.ref 49), some (.int a1), none, some (.int a3), some (.long v2), none, some (.long v4), none, some (.long x5), none, some (.long x8), none, some (.int x9)], [], M7)) rfl (fun _ => ?_) (fun _ => ?_)
      · refine pm_iwk (al' := [none, none, none, some (.int a3), some (.long v2), none, some (.long v4), none, some (.long x5), none, none, none, none]) (pm_wkN (pm_wkN (pm_wkS (pm_wkS (pm_wkS (pm_wkS (pm_wkS (pm_wkS (pm_wkS (pm_wkS (pm_wkN (pm_wkS (pm_wkN pm_wk0))))))))))))) ?_
        exact hj10 _
      · refine pm_irun 7 (σ' := (125, [some (.ref 49), some (.int a1), none, some (.int a3), some (.long v2), none, some (.long v4), none, some (.long x5), none, some (.long x8), none, some (.int x9)], [.int (lg_cmp (v2 + v4) (x5 * x8))], M7)) rfl ?_
        refine pm_iite (σ1 := (138, [some (.ref 49), some (.int a1), none, some (.int a3), some (.long v2), none, some (.long v4), none, some (.long x5), none, some (.long x8), none, some (.int x9)], [], M7)) (σ2 := (128, [some (.ref 49), some (.int a1), none, some (.int a3), some (.long v2), none, some (.long v4), none, some (.long x5), none, some (.long x8), none, some (.int x9)], [], M7)) rfl (fun _ => ?_) (fun _ => ?_)
        · refine pm_iwk (al' := [none, none, none, some (.int a3), some (.long v2), none, some (.long v4), none, some (.long x5), none, none, none, none]) (pm_wkN (pm_wkN (pm_wkS (pm_wkS (pm_wkS (pm_wkS (pm_wkS (pm_wkS (pm_wkS (pm_wkS (pm_wkN (pm_wkS (pm_wkN pm_wk0))))))))))))) ?_
          exact hj10 _
        · refine pm_irun 3 (σ' := (132, [some (.ref 49), some (.int a1), none, some (.int a3), some (.long v2), none, some (.long v4), none, some (.long x5), none, some (.long x8), none, some (.int x9)], [.int a3, .long x8, .long (1 : Int64)], M7)) rfl ?_
          refine pm_icL (as := [.long (1 : Int64), .long x8, .int a3]) (rest := []) rfl rfl rfl rfl (Nat.le_of_ble_eq_true rfl) rfl (fun r h => pm_Ev_mono (Nat.le_of_ble_eq_true rfl) (sR_part_ok (1 : Int64) x8 a3 M7 r h)) (fun v15 M14 => ?_)
          show pm_Im _ _ _ _ _ _ (135, [some (.ref 49), some (.int a1), none, some (.int a3), some (.long v2), none, some (.long v4), none, some (.long x5), none, some (.long x8), none, some (.int x9)], [.long v15], M14)
          refine pm_irun 1 (σ' := (149, [some (.ref 49), some (.int a1), none, some (.int a3), some (.long v2), none, some (.long v4), none, some (.long x5), none, some (.long x8), none, some (.int x9)], [.long v15], M14)) rfl ?_
          exact pm_irL rfl rfl
    · refine pm_irun 3 (σ' := (66, [some (.ref 49), some (.int a1), none, some (.int a3), some (.long v2), none, some (.long v4), none, some (.long x5), none, some (.long x8), none, some (.int x9)], [.int x9, .ref 50], M7)) rfl ?_
      refine pm_igd (σ1 := (67, [some (.ref 49), some (.int a1), none, some (.int a3), some (.long v2), none, some (.long v4), none, some (.long x5), none, some (.long x8), none, some (.int x9)], [.int (M7.1 50 x9.toNatClampNeg)], M7)) rfl (fun _ => ?_)
      refine pm_irun 1 (σ' := (68, [some (.ref 49), some (.int a1), none, some (.int a3), some (.long v2), none, some (.long v4), none, some (.long x5), none, some (.long x8), none, some (.int x9)], [.int (3 : Int32), .int (M7.1 50 x9.toNatClampNeg)], M7)) rfl ?_
      refine pm_iite (σ1 := (101, [some (.ref 49), some (.int a1), none, some (.int a3), some (.long v2), none, some (.long v4), none, some (.long x5), none, some (.long x8), none, some (.int x9)], [], M7)) (σ2 := (71, [some (.ref 49), some (.int a1), none, some (.int a3), some (.long v2), none, some (.long v4), none, some (.long x5), none, some (.long x8), none, some (.int x9)], [], M7)) rfl (fun _ => ?_) (fun _ => ?_)
      · refine pm_irun 1 (σ' := (104, [some (.ref 49), some (.int a1), none, some (.int a3), some (.long v2), none, some (.long v4), none, some (.long x5), none, some (.long x8), none, some (.int (x9 + (1 : Int32)))], [], M7)) rfl ?_
        refine pm_ilt (fun y => (104, [some (.ref 49), some (.int a1), none, some (.int a3), some (.long v2), none, some (.long v4), none, some (.long x5), none, some (.long x8), none, some (.int y)], [], M7)) (fun x16 => ?_)
        refine pm_irun 1 (σ' := (51, [some (.ref 49), some (.int a1), none, some (.int a3), some (.long v2), none, some (.long v4), none, some (.long x5), none, some (.long x8), none, some (.int x16)], [], M7)) rfl ?_
        exact hg6 _ _ _
      · refine pm_irun 7 (σ' := (81, [some (.ref 49), some (.int a1), none, some (.int a3), some (.long v2), none, some (.long v4), none, some (.long x5), none, some (.long x8), none, some (.int x9)], [.int (((5 : Int32) * a1) + x9), .ref 60], M7)) rfl ?_
        refine pm_igd (σ1 := (82, [some (.ref 49), some (.int a1), none, some (.int a3), some (.long v2), none, some (.long v4), none, some (.long x5), none, some (.long x8), none, some (.int x9)], [.long (M7.2 60 (((5 : Int32) * a1) + x9).toNatClampNeg)], M7)) rfl (fun _ => ?_)
        refine pm_irun 2 (σ' := (85, [some (.ref 49), some (.int a1), none, some (.int a3), some (.long v2), none, some (.long v4), none, some (.long x5), none, some (.long x8), none, some (.int x9)], [.int (lg_cmp (M7.2 60 (((5 : Int32) * a1) + x9).toNatClampNeg) x8)], M7)) rfl ?_
        refine pm_iite (σ1 := (101, [some (.ref 49), some (.int a1), none, some (.int a3), some (.long v2), none, some (.long v4), none, some (.long x5), none, some (.long x8), none, some (.int x9)], [], M7)) (σ2 := (88, [some (.ref 49), some (.int a1), none, some (.int a3), some (.long v2), none, some (.long v4), none, some (.long x5), none, some (.long x8), none, some (.int x9)], [], M7)) rfl (fun _ => ?_) (fun _ => ?_)
        · refine pm_irun 1 (σ' := (104, [some (.ref 49), some (.int a1), none, some (.int a3), some (.long v2), none, some (.long v4), none, some (.long x5), none, some (.long x8), none, some (.int (x9 + (1 : Int32)))], [], M7)) rfl ?_
          refine pm_ilt (fun y => (104, [some (.ref 49), some (.int a1), none, some (.int a3), some (.long v2), none, some (.long v4), none, some (.long x5), none, some (.long x8), none, some (.int y)], [], M7)) (fun x17 => ?_)
          refine pm_irun 1 (σ' := (51, [some (.ref 49), some (.int a1), none, some (.int a3), some (.long v2), none, some (.long v4), none, some (.long x5), none, some (.long x8), none, some (.int x17)], [], M7)) rfl ?_
          exact hg6 _ _ _
        · refine pm_irun 7 (σ' := (98, [some (.ref 49), some (.int a1), none, some (.int a3), some (.long v2), none, some (.long v4), none, some (.long x5), none, some (.long x8), none, some (.int x9)], [.int (((5 : Int32) * a1) + x9), .ref 60], M7)) rfl ?_
          refine pm_igd (σ1 := (99, [some (.ref 49), some (.int a1), none, some (.int a3), some (.long v2), none, some (.long v4), none, some (.long x5), none, some (.long x8), none, some (.int x9)], [.long (M7.2 60 (((5 : Int32) * a1) + x9).toNatClampNeg)], M7)) rfl (fun _ => ?_)
          refine pm_irun 1 (σ' := (101, [some (.ref 49), some (.int a1), none, some (.int a3), some (.long v2), none, some (.long v4), none, some (.long x5), none, some (.long (M7.2 60 (((5 : Int32) * a1) + x9).toNatClampNeg)), none, some (.int x9)], [], M7)) rfl ?_
          refine pm_ilt (fun y => (101, [some (.ref 49), some (.int a1), none, some (.int a3), some (.long v2), none, some (.long v4), none, some (.long x5), none, some (.long y), none, some (.int x9)], [], M7)) (fun x18 => ?_)
          refine pm_irun 1 (σ' := (104, [some (.ref 49), some (.int a1), none, some (.int a3), some (.long v2), none, some (.long v4), none, some (.long x5), none, some (.long x18), none, some (.int (x9 + (1 : Int32)))], [], M7)) rfl ?_
          refine pm_ilt (fun y => (104, [some (.ref 49), some (.int a1), none, some (.int a3), some (.long v2), none, some (.long v4), none, some (.long x5), none, some (.long x18), none, some (.int y)], [], M7)) (fun x19 => ?_)
          refine pm_irun 1 (σ' := (51, [some (.ref 49), some (.int a1), none, some (.int a3), some (.long v2), none, some (.long v4), none, some (.long x5), none, some (.long x18), none, some (.int x19)], [], M7)) rfl ?_
          exact hg6 _ _ _
  · refine pm_irun 7 (σ' := (41, [some (.ref 49), some (.int a1), some (.int a2), some (.int a3), some (.long v2), none, some (.long v4), none, some (.long x5), none, none, none, none], [.int a3, .long ((x5 * v2) + v4), .long x5], M3)) rfl ?_
    refine pm_icL (as := [.long x5, .long ((x5 * v2) + v4), .int a3]) (rest := []) rfl rfl rfl rfl (Nat.le_of_ble_eq_true rfl) rfl (fun r h => pm_Ev_mono (Nat.le_of_ble_eq_true rfl) (sR_part_ok x5 ((x5 * v2) + v4) a3 M3 r h)) (fun v21 M20 => ?_)
    show pm_Im _ _ _ _ _ _ (44, [some (.ref 49), some (.int a1), some (.int a2), some (.int a3), some (.long v2), none, some (.long v4), none, some (.long x5), none, none, none, none], [.long v21], M20)
    exact pm_irL rfl rfl
