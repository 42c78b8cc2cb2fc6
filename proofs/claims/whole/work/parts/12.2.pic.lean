def pm_I0 : Nat → Nat → Int32 := fun i => match i with
    | 4 => upd (upd ((fun _ => 0)) 0 (-1)) 1 (-1)
    | 11 => upd (upd ((fun _ => 0)) 0 (-1)) 1 (-1)
    | 16 => upd ((upd ((fun _ => 0)) 0 (1))) 1 (1)
    | 30 => fun j => match j with
      | 4 => 1
      | _ => 0
    | 40 => fun j => match j with
      | 0 => -1
      | _ => 0
    | 42 => fun j => match j with
      | 0 => -1
      | _ => 0
    | 44 => fun j => match j with
      | 0 => -1
      | _ => 0
    | 46 => fun j => match j with
      | 0 => -1
      | _ => 0
    | 49 => fun j => match j with
      | 28 => 1
      | 32 => -1
      | _ => 0
    | 52 => upd ((upd ((fun _ => 0)) 0 (-1))) 1 (-1)
    | 78 => upd ((upd ((upd ((upd ((fun _ => 0)) 0 (-1))) 1 (-1))) 2 (-1))) 3 (-1)
    | _ => fun _ => 0
def pm_L0 : Nat → Nat → Int64 := fun i => match i with
    | 61 => vp_updL ((vp_updL ((vp_updL ((vp_updL ((vp_updL ((vp_updL ((vp_updL ((vp_updL ((vp_updL ((fun _ => 0)) 0 (1))) 1 (1))) 2 (2))) 3 (6))) 4 (24))) 5 (120))) 6 (720))) 7 (5040))) 8 (40320)
    | _ => fun _ => 0
def pm_M0 : pm_M := (pm_I0, pm_L0)
def pm_ad (l : List Nat) (tF tC b i : Nat) : Nat := if i = 100 then tF else if i = 101 then tC else if i = 102 then b else l.getD i 0
def pm_cA0 (cI cZ cL cS : ClassId) (t : Nat) : ClassId := match t with
  | 0 => cI
  | 1 => cZ
  | 2 => cL
  | _ => cS
theorem pm_P_of {D : va_G} {ad : Nat → Nat} {cA : Nat → ClassId} {M : pm_M} {H : Heap} (h : ∀ k, k < 81 → va_at D vwCl (ad k, pm_ent ad cA M k (pm_SH.getD k (.inr (0, 0)))) H) : va_P D vwCl (pm_W ad cA M) H := by
  intro k q hq
  have hk := (pm_W_at hq).1
  unfold pm_W at hq
  rw [List.getElem?_map, List.getElem?_range hk] at hq
  cases hq
  exact h k hk
theorem pm_D_fin {A : Nat → Prop} {ad : Nat → Nat} {cA : Nat → ClassId} {M : pm_M} {ws : va_W} (h : va_D A ws) (he : ws.map (fun q => q.1) = (List.range pm_N).map ad) : va_D A (pm_W ad cA M) := by
  have key : ∀ (k : Nat) (q : Nat × va_E), (pm_W ad cA M)[k]? = some q → ∃ e, ws[k]? = some (q.1, e) := by
    intro k q hq
    obtain ⟨hk, hq1⟩ := pm_W_at hq
    have h1 : (ws.map (fun q => q.1))[k]? = some (ad k) := by rw [he, List.getElem?_map, List.getElem?_range hk]; rfl
    rw [List.getElem?_map] at h1
    cases hw : ws[k]? with
    | none => rw [hw] at h1; cases h1
    | some x =>
      rw [hw] at h1
      obtain ⟨x1, x2⟩ := x
      have h2 : x1 = ad k := Option.some.inj h1
      exact ⟨x2, by rw [h2, hq1]⟩
  refine ⟨fun i j p q hi hj hpq => ?_, fun k q hk => ?_⟩
  · obtain ⟨e1, g1⟩ := key i p hi
    obtain ⟨e2, g2⟩ := key j q hj
    exact h.1 i j _ _ g1 g2 hpq
  · obtain ⟨e1, g1⟩ := key k q hk
    exact h.2 k (q.1, e1) g1
set_option maxRecDepth 100000 in
set_option maxHeartbeats 4000000 in
theorem pm_f49 (x0 x1 x2 x3 x4 x5 x6 x7 x8 x9 x10 x11 x12 x13 x14 x15 x16 x17 x18 x19 x20 x21 x22 x23 x24 x25 x26 x27 x28 x29 x30 x31 x32 x33 x34 x35 x36 x37 x38 x39 x41 x42 x43 x44 x45 x46 x47 x48 x40 y0 y1 y2 y3 y4 y5 y6 y7 y8 y9 y10 y11 y12 y13 y14 y15 y16 y17 y18 y19 y20 y21 y22 y23 y24 y25 y26 y27 y28 y29 y30 y31 tF tC b : Nat) : pm_fs (pm_ad [x0, x1, x2, x3, x4, x5, x6, x7, x8, x9, x10, x11, x12, x13, x14, x15, x16, x17, x18, x19, x20, x21, x22, x23, x24, x25, x26, x27, x28, x29, x30, x31, x32, x33, x34, x35, x36, x37, x38, x39, x41, x42, x43, x44, x45, x46, x47, x48, x40, y0, y1, y2, y3, y4, y5, y6, y7, y8, y9, y10, y11, y12, y13, y14, y15, y16, y17, y18, y19, y20, y21, y22, y23, y24, y25, y26, y27, y28, y29, y30, y31] tF tC b) pm_M0 49 [(0, 0), (0, 0), (2, 50), (2, 51), (2, 52), (2, 53), (2, 54), (2, 55), (2, 56), (0, 0), (0, 0), (0, 0), (2, 57), (2, 58), (2, 59), (2, 60), (2, 61), (2, 62), (2, 63), (2, 64), (1, 0), (2, 65), (3, 0), (0, 0), (2, 66), (2, 67), (2, 68), (2, 69), (0, 0), (0, 0), (2, 70), (2, 71), (0, 0), (2, 72), (2, 73), (2, 74), (2, 75), (2, 76), (2, 77), (2, 78), (2, 79), (2, 80)] = [.int 0, .int 0, .ref y1, .ref y2, .ref y3, .ref y4, .ref y5, .ref y6, .ref y7, .int 0, .int 0, .int 0, .ref y8, .ref y9, .ref y10, .ref y11, .ref y12, .ref y13, .ref y14, .ref y15, .long 0, .ref y16, .int 0, .int 0, .ref y17, .ref y18, .ref y19, .ref y20, .int (1), .int 0, .ref y21, .ref y22, .int (-1), .ref y23, .ref y24, .ref y25, .ref y26, .ref y27, .ref y28, .ref y29, .ref y30, .ref y31] := by
  unfold pm_fs
  simp only [List.mapIdx_cons, List.mapIdx_nil]
  rfl
set_option maxRecDepth 100000 in
set_option maxHeartbeats 4000000 in
theorem pm_W0 {D : va_G} {H : Heap} (x0 x1 x2 x3 x4 x5 x6 x7 x8 x9 x10 x11 x12 x13 x14 x15 x16 x17 x18 x19 x20 x21 x22 x23 x24 x25 x26 x27 x28 x29 x30 x31 x32 x33 x34 x35 x36 x37 x38 x39 x41 x42 x43 x44 x45 x46 x47 x48 x40 y0 y1 y2 y3 y4 y5 y6 y7 y8 y9 y10 y11 y12 y13 y14 y15 y16 y17 y18 y19 y20 y21 y22 y23 y24 y25 y26 y27 y28 y29 y30 y31 tF tC b : Nat) (cI cZ cL cS : ClassId) (hP : va_P D vwCl [(x0, .inr (6, [.ref x1, .ref x8, .int (0), .ref x15, .ref x23, .ref x30, .ref x37, .ref x39, .ref x40])), (x1, .inr (0, [.int (0), .ref x2, .ref x3, .ref x4, .ref x5, .ref x6, .ref x7])), (x2, .inl (cI, 5, .inl (fun _ => 0))), (x3, .inl (cI, 10, .inl (fun _ => 0))), (x4, .inl (cI, 2, .inl (upd (upd ((fun _ => 0)) 0 (-1)) 1 (-1)))), (x5, .inl (cI, 2, .inl (fun _ => 0))), (x6, .inl (cI, 50, .inl (fun _ => 0))), (x7, .inl (cL, 2, .inr (.inl (fun _ => 0)))), (x8, .inr (0, [.int (0), .ref x9, .ref x10, .ref x11, .ref x12, .ref x13, .ref x14])), (x9, .inl (cI, 5, .inl (fun _ => 0))), (x10, .inl (cI, 10, .inl (fun _ => 0))), (x11, .inl (cI, 2, .inl (upd (upd ((fun _ => 0)) 0 (-1)) 1 (-1)))), (x12, .inl (cI, 2, .inl (fun _ => 0))), (x13, .inl (cI, 50, .inl (fun _ => 0))), (x14, .inl (cL, 2, .inr (.inl (fun _ => 0)))), (x15, .inr (4, [.ref x16, .ref x17, .ref x18, .ref x19, .ref x20, .ref x21, .ref x22])), (x16, .inl (cZ, 2, .inl (upd ((upd ((fun _ => 0)) 0 (1))) 1 (1)))), (x17, .inl (cI, 2, .inl (fun _ => 0))), (x18, .inl (cZ, 2, .inl (fun _ => 0))), (x19, .inl (cL, 10, .inr (.inl (fun _ => 0)))), (x20, .inl (cL, 10, .inr (.inl (fun _ => 0)))), (x21, .inl (cI, 5, .inl (fun _ => 0))), (x22, .inl (cL, 25, .inr (.inl (fun _ => 0)))), (x23, .inr (2, [.int (0), .int (0), .int (0), .int (0), .long (0), .ref x24, .ref x25, .ref x26, .ref x27, .ref x28, .ref x29])), (x24, .inl (cZ, 5, .inl (fun _ => 0))), (x25, .inl (cL, 10, .inr (.inl (fun _ => 0)))), (x26, .inl (cL, 49, .inr (.inl (fun _ => 0)))), (x27, .inl (cL, 49, .inr (.inl (fun _ => 0)))), (x28, .inl (cI, 10, .inl (fun _ => 0))), (x29, .inl (cI, 10, .inl (fun _ => 0))), (x30, .inr (5, [.int (0), .int (0), .int (0), .int (0), .int (1), .int (0), .ref x31, .ref x32, .ref x33, .ref x34, .ref x35, .ref x36])), (x31, .inl (cI, 40, .inl (fun _ => 0))), (x32, .inl (cI, 5, .inl (fun _ => 0))), (x33, .inl (cI, 8, .inl (fun _ => 0))), (x34, .inl (cI, 8, .inl (fun _ => 0))), (x35, .inl (cI, 10, .inl (fun _ => 0))), (x36, .inl (cI, 8, .inl (fun _ => 0))), (x37, .inr (3, [.int (0), .ref x38])), (x38, .inl (cI, 60, .inl (fun _ => 0))), (x39, .inl (cS, 4, .inr (.inr (.inr (.inr (fun j => if j < 4 then some (pm_ad [x0, x1, x2, x3, x4, x5, x6, x7, x8, x9, x10, x11, x12, x13, x14, x15, x16, x17, x18, x19, x20, x21, x22, x23, x24, x25, x26, x27, x28, x29, x30, x31, x32, x33, x34, x35, x36, x37, x38, x39, x41, x42, x43, x44, x45, x46, x47, x48, x40, y0, y1, y2, y3, y4, y5, y6, y7, y8, y9, y10, y11, y12, y13, y14, y15, y16, y17, y18, y19, y20, y21, y22, y23, y24, y25, y26, y27, y28, y29, y30, y31] tF tC b (pm_sheetId j)) else none)))))), (x41, .inr (1, [.int (-1), .int (0), .ref x42])), (x42, .inl (cL, 40, .inr (.inl (fun _ => 0)))), (x43, .inr (1, [.int (-1), .int (0), .ref x44])), (x44, .inl (cL, 40, .inr (.inl (fun _ => 0)))), (x45, .inr (1, [.int (-1), .int (0), .ref x46])), (x46, .inl (cL, 40, .inr (.inl (fun _ => 0)))), (x47, .inr (1, [.int (-1), .int (0), .ref x48])), (x48, .inl (cL, 40, .inr (.inl (fun _ => 0)))), (x40, .inl (cI, 10, .inl (fun _ => 0))), (y0, .inr (7, [.int 0, .int 0, .ref y1, .ref y2, .ref y3, .ref y4, .ref y5, .ref y6, .ref y7, .int 0, .int 0, .int 0, .ref y8, .ref y9, .ref y10, .ref y11, .ref y12, .ref y13, .ref y14, .ref y15, .long 0, .ref y16, .int 0, .int 0, .ref y17, .ref y18, .ref y19, .ref y20, .int (1), .int 0, .ref y21, .ref y22, .int (-1), .ref y23, .ref y24, .ref y25, .ref y26, .ref y27, .ref y28, .ref y29, .ref y30, .ref y31])), (y1, .inl (cI, 5, .inl (fun _ => 0))), (y2, .inl (cI, 10, .inl (fun _ => 0))), (y3, .inl (cI, 2, .inl (upd ((upd ((fun _ => 0)) 0 (-1))) 1 (-1)))), (y4, .inl (cI, 2, .inl (fun _ => 0))), (y5, .inl (cI, 50, .inl (fun _ => 0))), (y6, .inl (cL, 2, .inr (.inl (fun _ => 0)))), (y7, .inl (cI, 60, .inl (fun _ => 0))), (y8, .inl (cI, 24, .inl (fun _ => 0))), (y9, .inl (cI, 96, .inl (fun _ => 0))), (y10, .inl (cL, 10, .inr (.inl (fun _ => 0)))), (y11, .inl (cL, 10, .inr (.inl (fun _ => 0)))), (y12, .inl (cL, 9, .inr (.inl (vp_updL ((vp_updL ((vp_updL ((vp_updL ((vp_updL ((vp_updL ((vp_updL ((vp_updL ((vp_updL ((fun _ => 0)) 0 (1))) 1 (1))) 2 (2))) 3 (6))) 4 (24))) 5 (120))) 6 (720))) 7 (5040))) 8 (40320))))), (y13, .inl (cL, 49, .inr (.inl (fun _ => 0)))), (y14, .inl (cL, 49, .inr (.inl (fun _ => 0)))), (y15, .inl (cI, 10, .inl (fun _ => 0))), (y16, .inl (cI, 10, .inl (fun _ => 0))), (y17, .inl (cI, 5, .inl (fun _ => 0))), (y18, .inl (cI, 40, .inl (fun _ => 0))), (y19, .inl (cI, 8, .inl (fun _ => 0))), (y20, .inl (cI, 10, .inl (fun _ => 0))), (y21, .inl (cI, 8, .inl (fun _ => 0))), (y22, .inl (cI, 8, .inl (fun _ => 0))), (y23, .inl (cI, 5, .inl (fun _ => 0))), (y24, .inl (cI, 10, .inl (fun _ => 0))), (y25, .inl (cI, 2, .inl (fun _ => 0))), (y26, .inl (cI, 2, .inl (fun _ => 0))), (y27, .inl (cI, 50, .inl (fun _ => 0))), (y28, .inl (cL, 2, .inr (.inl (fun _ => 0)))), (y29, .inl (cI, 4, .inl (upd ((upd ((upd ((upd ((fun _ => 0)) 0 (-1))) 1 (-1))) 2 (-1))) 3 (-1)))), (y30, .inl (cI, 4, .inl (fun _ => 0))), (y31, .inl (cL, 160, .inr (.inl (fun _ => 0))))] H) : va_P D vwCl (pm_W (pm_ad [x0, x1, x2, x3, x4, x5, x6, x7, x8, x9, x10, x11, x12, x13, x14, x15, x16, x17, x18, x19, x20, x21, x22, x23, x24, x25, x26, x27, x28, x29, x30, x31, x32, x33, x34, x35, x36, x37, x38, x39, x41, x42, x43, x44, x45, x46, x47, x48, x40, y0, y1, y2, y3, y4, y5, y6, y7, y8, y9, y10, y11, y12, y13, y14, y15, y16, y17, y18, y19, y20, y21, y22, y23, y24, y25, y26, y27, y28, y29, y30, y31] tF tC b) (pm_cA0 cI cZ cL cS) pm_M0) H := by
  refine pm_P_of (fun k hk => ?_)
  match k, hk with
  | 0, _ => exact hP 0 _ rfl
  | 1, _ => exact hP 1 _ rfl
  | 2, _ => exact hP 2 _ rfl
  | 3, _ => exact hP 3 _ rfl
  | 4, _ => exact hP 4 _ rfl
  | 5, _ => exact hP 5 _ rfl
  | 6, _ => exact hP 6 _ rfl
  | 7, _ => exact hP 7 _ rfl
  | 8, _ => exact hP 8 _ rfl
  | 9, _ => exact hP 9 _ rfl
  | 10, _ => exact hP 10 _ rfl
  | 11, _ => exact hP 11 _ rfl
  | 12, _ => exact hP 12 _ rfl
  | 13, _ => exact hP 13 _ rfl
  | 14, _ => exact hP 14 _ rfl
  | 15, _ => exact hP 15 _ rfl
  | 16, _ => exact hP 16 _ rfl
  | 17, _ => exact hP 17 _ rfl
  | 18, _ => exact hP 18 _ rfl
  | 19, _ => exact hP 19 _ rfl
  | 20, _ => exact hP 20 _ rfl
  | 21, _ => exact hP 21 _ rfl
  | 22, _ => exact hP 22 _ rfl
  | 23, _ => exact hP 23 _ rfl
  | 24, _ => exact hP 24 _ rfl
  | 25, _ => exact hP 25 _ rfl
  | 26, _ => exact hP 26 _ rfl
  | 27, _ => exact hP 27 _ rfl
  | 28, _ => exact hP 28 _ rfl
  | 29, _ => exact hP 29 _ rfl
  | 30, _ => exact hP 30 _ rfl
  | 31, _ => exact hP 31 _ rfl
  | 32, _ => exact hP 32 _ rfl
  | 33, _ => exact hP 33 _ rfl
  | 34, _ => exact hP 34 _ rfl
  | 35, _ => exact hP 35 _ rfl
  | 36, _ => exact hP 36 _ rfl
  | 37, _ => exact hP 37 _ rfl
  | 38, _ => exact hP 38 _ rfl
  | 39, _ => exact hP 39 _ rfl
  | 40, _ => exact hP 40 _ rfl
  | 41, _ => exact hP 41 _ rfl
  | 42, _ => exact hP 42 _ rfl
  | 43, _ => exact hP 43 _ rfl
  | 44, _ => exact hP 44 _ rfl
  | 45, _ => exact hP 45 _ rfl
  | 46, _ => exact hP 46 _ rfl
  | 47, _ => exact hP 47 _ rfl
  | 48, _ => exact hP 48 _ rfl
  | 49, _ =>
    show va_at D vwCl (y0, .inr (7, pm_fs (pm_ad [x0, x1, x2, x3, x4, x5, x6, x7, x8, x9, x10, x11, x12, x13, x14, x15, x16, x17, x18, x19, x20, x21, x22, x23, x24, x25, x26, x27, x28, x29, x30, x31, x32, x33, x34, x35, x36, x37, x38, x39, x41, x42, x43, x44, x45, x46, x47, x48, x40, y0, y1, y2, y3, y4, y5, y6, y7, y8, y9, y10, y11, y12, y13, y14, y15, y16, y17, y18, y19, y20, y21, y22, y23, y24, y25, y26, y27, y28, y29, y30, y31] tF tC b) pm_M0 49 [(0, 0), (0, 0), (2, 50), (2, 51), (2, 52), (2, 53), (2, 54), (2, 55), (2, 56), (0, 0), (0, 0), (0, 0), (2, 57), (2, 58), (2, 59), (2, 60), (2, 61), (2, 62), (2, 63), (2, 64), (1, 0), (2, 65), (3, 0), (0, 0), (2, 66), (2, 67), (2, 68), (2, 69), (0, 0), (0, 0), (2, 70), (2, 71), (0, 0), (2, 72), (2, 73), (2, 74), (2, 75), (2, 76), (2, 77), (2, 78), (2, 79), (2, 80)])) H
    rw [pm_f49]
    exact hP 49 _ rfl
  | 50, _ => exact hP 50 _ rfl
  | 51, _ => exact hP 51 _ rfl
  | 52, _ => exact hP 52 _ rfl
  | 53, _ => exact hP 53 _ rfl
  | 54, _ => exact hP 54 _ rfl
  | 55, _ => exact hP 55 _ rfl
  | 56, _ => exact hP 56 _ rfl
  | 57, _ => exact hP 57 _ rfl
  | 58, _ => exact hP 58 _ rfl
  | 59, _ => exact hP 59 _ rfl
  | 60, _ => exact hP 60 _ rfl
  | 61, _ => exact hP 61 _ rfl
  | 62, _ => exact hP 62 _ rfl
  | 63, _ => exact hP 63 _ rfl
  | 64, _ => exact hP 64 _ rfl
  | 65, _ => exact hP 65 _ rfl
  | 66, _ => exact hP 66 _ rfl
  | 67, _ => exact hP 67 _ rfl
  | 68, _ => exact hP 68 _ rfl
  | 69, _ => exact hP 69 _ rfl
  | 70, _ => exact hP 70 _ rfl
  | 71, _ => exact hP 71 _ rfl
  | 72, _ => exact hP 72 _ rfl
  | 73, _ => exact hP 73 _ rfl
  | 74, _ => exact hP 74 _ rfl
  | 75, _ => exact hP 75 _ rfl
  | 76, _ => exact hP 76 _ rfl
  | 77, _ => exact hP 77 _ rfl
  | 78, _ => exact hP 78 _ rfl
  | 79, _ => exact hP 79 _ rfl
  | 80, _ => exact hP 80 _ rfl
  | k + 81, h => exact absurd h (by omega)
set_option maxRecDepth 100000 in
set_option maxHeartbeats 4000000 in
theorem pm_W1 {A : Nat → Prop} (x0 x1 x2 x3 x4 x5 x6 x7 x8 x9 x10 x11 x12 x13 x14 x15 x16 x17 x18 x19 x20 x21 x22 x23 x24 x25 x26 x27 x28 x29 x30 x31 x32 x33 x34 x35 x36 x37 x38 x39 x41 x42 x43 x44 x45 x46 x47 x48 x40 y0 y1 y2 y3 y4 y5 y6 y7 y8 y9 y10 y11 y12 y13 y14 y15 y16 y17 y18 y19 y20 y21 y22 y23 y24 y25 y26 y27 y28 y29 y30 y31 tF tC b : Nat) (cI cZ cL cS : ClassId) (hD : va_D A [(x0, .inr (6, [.ref x1, .ref x8, .int (0), .ref x15, .ref x23, .ref x30, .ref x37, .ref x39, .ref x40])), (x1, .inr (0, [.int (0), .ref x2, .ref x3, .ref x4, .ref x5, .ref x6, .ref x7])), (x2, .inl (cI, 5, .inl (fun _ => 0))), (x3, .inl (cI, 10, .inl (fun _ => 0))), (x4, .inl (cI, 2, .inl (upd (upd ((fun _ => 0)) 0 (-1)) 1 (-1)))), (x5, .inl (cI, 2, .inl (fun _ => 0))), (x6, .inl (cI, 50, .inl (fun _ => 0))), (x7, .inl (cL, 2, .inr (.inl (fun _ => 0)))), (x8, .inr (0, [.int (0), .ref x9, .ref x10, .ref x11, .ref x12, .ref x13, .ref x14])), (x9, .inl (cI, 5, .inl (fun _ => 0))), (x10, .inl (cI, 10, .inl (fun _ => 0))), (x11, .inl (cI, 2, .inl (upd (upd ((fun _ => 0)) 0 (-1)) 1 (-1)))), (x12, .inl (cI, 2, .inl (fun _ => 0))), (x13, .inl (cI, 50, .inl (fun _ => 0))), (x14, .inl (cL, 2, .inr (.inl (fun _ => 0)))), (x15, .inr (4, [.ref x16, .ref x17, .ref x18, .ref x19, .ref x20, .ref x21, .ref x22])), (x16, .inl (cZ, 2, .inl (upd ((upd ((fun _ => 0)) 0 (1))) 1 (1)))), (x17, .inl (cI, 2, .inl (fun _ => 0))), (x18, .inl (cZ, 2, .inl (fun _ => 0))), (x19, .inl (cL, 10, .inr (.inl (fun _ => 0)))), (x20, .inl (cL, 10, .inr (.inl (fun _ => 0)))), (x21, .inl (cI, 5, .inl (fun _ => 0))), (x22, .inl (cL, 25, .inr (.inl (fun _ => 0)))), (x23, .inr (2, [.int (0), .int (0), .int (0), .int (0), .long (0), .ref x24, .ref x25, .ref x26, .ref x27, .ref x28, .ref x29])), (x24, .inl (cZ, 5, .inl (fun _ => 0))), (x25, .inl (cL, 10, .inr (.inl (fun _ => 0)))), (x26, .inl (cL, 49, .inr (.inl (fun _ => 0)))), (x27, .inl (cL, 49, .inr (.inl (fun _ => 0)))), (x28, .inl (cI, 10, .inl (fun _ => 0))), (x29, .inl (cI, 10, .inl (fun _ => 0))), (x30, .inr (5, [.int (0), .int (0), .int (0), .int (0), .int (1), .int (0), .ref x31, .ref x32, .ref x33, .ref x34, .ref x35, .ref x36])), (x31, .inl (cI, 40, .inl (fun _ => 0))), (x32, .inl (cI, 5, .inl (fun _ => 0))), (x33, .inl (cI, 8, .inl (fun _ => 0))), (x34, .inl (cI, 8, .inl (fun _ => 0))), (x35, .inl (cI, 10, .inl (fun _ => 0))), (x36, .inl (cI, 8, .inl (fun _ => 0))), (x37, .inr (3, [.int (0), .ref x38])), (x38, .inl (cI, 60, .inl (fun _ => 0))), (x39, .inl (cS, 4, .inr (.inr (.inr (.inr (fun j => if j < 4 then some (pm_ad [x0, x1, x2, x3, x4, x5, x6, x7, x8, x9, x10, x11, x12, x13, x14, x15, x16, x17, x18, x19, x20, x21, x22, x23, x24, x25, x26, x27, x28, x29, x30, x31, x32, x33, x34, x35, x36, x37, x38, x39, x41, x42, x43, x44, x45, x46, x47, x48, x40, y0, y1, y2, y3, y4, y5, y6, y7, y8, y9, y10, y11, y12, y13, y14, y15, y16, y17, y18, y19, y20, y21, y22, y23, y24, y25, y26, y27, y28, y29, y30, y31] tF tC b (pm_sheetId j)) else none)))))), (x41, .inr (1, [.int (-1), .int (0), .ref x42])), (x42, .inl (cL, 40, .inr (.inl (fun _ => 0)))), (x43, .inr (1, [.int (-1), .int (0), .ref x44])), (x44, .inl (cL, 40, .inr (.inl (fun _ => 0)))), (x45, .inr (1, [.int (-1), .int (0), .ref x46])), (x46, .inl (cL, 40, .inr (.inl (fun _ => 0)))), (x47, .inr (1, [.int (-1), .int (0), .ref x48])), (x48, .inl (cL, 40, .inr (.inl (fun _ => 0)))), (x40, .inl (cI, 10, .inl (fun _ => 0))), (y0, .inr (7, [.int 0, .int 0, .ref y1, .ref y2, .ref y3, .ref y4, .ref y5, .ref y6, .ref y7, .int 0, .int 0, .int 0, .ref y8, .ref y9, .ref y10, .ref y11, .ref y12, .ref y13, .ref y14, .ref y15, .long 0, .ref y16, .int 0, .int 0, .ref y17, .ref y18, .ref y19, .ref y20, .int (1), .int 0, .ref y21, .ref y22, .int (-1), .ref y23, .ref y24, .ref y25, .ref y26, .ref y27, .ref y28, .ref y29, .ref y30, .ref y31])), (y1, .inl (cI, 5, .inl (fun _ => 0))), (y2, .inl (cI, 10, .inl (fun _ => 0))), (y3, .inl (cI, 2, .inl (upd ((upd ((fun _ => 0)) 0 (-1))) 1 (-1)))), (y4, .inl (cI, 2, .inl (fun _ => 0))), (y5, .inl (cI, 50, .inl (fun _ => 0))), (y6, .inl (cL, 2, .inr (.inl (fun _ => 0)))), (y7, .inl (cI, 60, .inl (fun _ => 0))), (y8, .inl (cI, 24, .inl (fun _ => 0))), (y9, .inl (cI, 96, .inl (fun _ => 0))), (y10, .inl (cL, 10, .inr (.inl (fun _ => 0)))), (y11, .inl (cL, 10, .inr (.inl (fun _ => 0)))), (y12, .inl (cL, 9, .inr (.inl (vp_updL ((vp_updL ((vp_updL ((vp_updL ((vp_updL ((vp_updL ((vp_updL ((vp_updL ((vp_updL ((fun _ => 0)) 0 (1))) 1 (1))) 2 (2))) 3 (6))) 4 (24))) 5 (120))) 6 (720))) 7 (5040))) 8 (40320))))), (y13, .inl (cL, 49, .inr (.inl (fun _ => 0)))), (y14, .inl (cL, 49, .inr (.inl (fun _ => 0)))), (y15, .inl (cI, 10, .inl (fun _ => 0))), (y16, .inl (cI, 10, .inl (fun _ => 0))), (y17, .inl (cI, 5, .inl (fun _ => 0))), (y18, .inl (cI, 40, .inl (fun _ => 0))), (y19, .inl (cI, 8, .inl (fun _ => 0))), (y20, .inl (cI, 10, .inl (fun _ => 0))), (y21, .inl (cI, 8, .inl (fun _ => 0))), (y22, .inl (cI, 8, .inl (fun _ => 0))), (y23, .inl (cI, 5, .inl (fun _ => 0))), (y24, .inl (cI, 10, .inl (fun _ => 0))), (y25, .inl (cI, 2, .inl (fun _ => 0))), (y26, .inl (cI, 2, .inl (fun _ => 0))), (y27, .inl (cI, 50, .inl (fun _ => 0))), (y28, .inl (cL, 2, .inr (.inl (fun _ => 0)))), (y29, .inl (cI, 4, .inl (upd ((upd ((upd ((upd ((fun _ => 0)) 0 (-1))) 1 (-1))) 2 (-1))) 3 (-1)))), (y30, .inl (cI, 4, .inl (fun _ => 0))), (y31, .inl (cL, 160, .inr (.inl (fun _ => 0))))]) : va_D A (pm_W (pm_ad [x0, x1, x2, x3, x4, x5, x6, x7, x8, x9, x10, x11, x12, x13, x14, x15, x16, x17, x18, x19, x20, x21, x22, x23, x24, x25, x26, x27, x28, x29, x30, x31, x32, x33, x34, x35, x36, x37, x38, x39, x41, x42, x43, x44, x45, x46, x47, x48, x40, y0, y1, y2, y3, y4, y5, y6, y7, y8, y9, y10, y11, y12, y13, y14, y15, y16, y17, y18, y19, y20, y21, y22, y23, y24, y25, y26, y27, y28, y29, y30, y31] tF tC b) (pm_cA0 cI cZ cL cS) pm_M0) := pm_D_fin hD rfl
theorem pm_sh0 (x0 x1 x2 x3 x4 x5 x6 x7 x8 x9 x10 x11 x12 x13 x14 x15 x16 x17 x18 x19 x20 x21 x22 x23 x24 x25 x26 x27 x28 x29 x30 x31 x32 x33 x34 x35 x36 x37 x38 x39 x41 x42 x43 x44 x45 x46 x47 x48 x40 y0 y1 y2 y3 y4 y5 y6 y7 y8 y9 y10 y11 y12 y13 y14 y15 y16 y17 y18 y19 y20 y21 y22 y23 y24 y25 y26 y27 y28 y29 y30 y31 tF tC b : Nat) : (va_up (va_up (va_up (va_up (fun _ => none) 0 (some x41)) 1 (some x43)) 2 (some x45)) 3 (some x47)) = (fun j => if j < 4 then some (pm_ad [x0, x1, x2, x3, x4, x5, x6, x7, x8, x9, x10, x11, x12, x13, x14, x15, x16, x17, x18, x19, x20, x21, x22, x23, x24, x25, x26, x27, x28, x29, x30, x31, x32, x33, x34, x35, x36, x37, x38, x39, x41, x42, x43, x44, x45, x46, x47, x48, x40, y0, y1, y2, y3, y4, y5, y6, y7, y8, y9, y10, y11, y12, y13, y14, y15, y16, y17, y18, y19, y20, y21, y22, y23, y24, y25, y26, y27, y28, y29, y30, y31] tF tC b (pm_sheetId j)) else none) := by
  funext j
  match j with
  | 0 => rfl
  | 1 => rfl
  | 2 => rfl
  | 3 => rfl
  | k + 4 => simp [va_up]
