/-! ODDS: a sheet read as a state -/
def gRead (i l : Nat) (M : pm_M) : Option (Int32 × pm_M) := pm_bd (some (b2i (M.1 i 0 = -1), M)) fun v2 M1 => if ¬ v2 = 0 then (some ((0 : Int32), M1)) else (if (M1.1 i 1) = ((2 : Int32) * (M1.1 1 0)) then (pm_loop (fun _ _ => none) (fun (g3 : Int32 → pm_M → Option (Int32 × pm_M)) x5 M4 => if (2 : Int32) ≤ x5 then (some ((1 : Int32), M4)) else (if pm_in x5 2 then (pm_lt ((M4.1 5 x5.toNatClampNeg)) fun x6 => pm_loop (fun _ _ _ => none) (fun (g7 : Int32 → Int32 → pm_M → Option (Int32 × pm_M)) x9 x10 M8 => if (M8.1 1 0) ≤ x10 then (if x9 = 0 then (pm_lt ((x5 + (1 : Int32))) fun x11 => g3 x11 M8) else (some ((0 : Int32), M8))) else (if pm_in ((x5 * (M8.1 1 0)) + x10) 40 then (pm_lt ((M8.2 l ((x5 * (M8.1 1 0)) + x10).toNatClampNeg)) fun x12 => if (lg_cmp x12 (0 : Int64)) < 0 then (some ((0 : Int32), M8)) else (if (lg_cmp x12 x9.toInt64) ≤ 0 then (pm_jn (fun (M14 : pm_M) => if pm_in ((x5 * (5 : Int32)) + x10) 10 then (pm_lt (pm_sI M14 48 ((x5 * (5 : Int32)) + x10).toNatClampNeg (x12.toInt32)) fun M15 => pm_lt ((x9 - x12.toInt32)) fun x16 => pm_lt ((x10 + (1 : Int32))) fun x17 => g7 x16 x17 M15) else none) fun (j13 : pm_M → Option (Int32 × pm_M)) => if (lg_cmp x12 (0 : Int64)) ≤ 0 then (j13 M8) else (pm_bd (sTours_visitsOf x5 x10 M8) fun v19 M18 => if ¬ (lg_cmp v19 (0 : Int64)) = 0 then (j13 M18) else (some ((0 : Int32), M18)))) else (some ((0 : Int32), M8)))) else none)) 1000000 x6 (0 : Int32) M4) else none)) 1000000 (0 : Int32) M1) else (some ((0 : Int32), M1)))
theorem read_40 (M : pm_M) : sC_readState_0_40 M = gRead 40 41 M := by
  unfold sC_readState_0_40 gRead
  rw [miss_40]
theorem read_42 (M : pm_M) : sC_readState_0_42 M = gRead 42 43 M := by
  unfold sC_readState_0_42 gRead
  rw [miss_42]
theorem read_44 (M : pm_M) : sC_readState_0_44 M = gRead 44 45 M := by
  unfold sC_readState_0_44 gRead
  rw [miss_44]
theorem read_46 (M : pm_M) : sC_readState_0_46 M = gRead 46 47 M := by
  unfold sC_readState_0_46 gRead
  rw [miss_46]
def gC_odds (i l : Nat) (a2 : Int32) (M : pm_M) : Option (Int64 × pm_M) := (pm_bd (gRead i l M) fun v8 M7 => if ¬ v8 = 0 then (pm_bd (sStates_weightOf_23_48 M7) fun v10 M9 => pm_bd (sStates_constantOf (M9.1 5 0) (M9.1 5 1) (M9.1 1 0) M9) fun v12 M11 => pm_bd (sC_fraction v10 v12 a2 M11) fun v14 M13 => some (v14, M13)) else (some ((-4611686018427387904 : Int64), M7)))
theorem C_odds_g {j : Nat} (hj : j < 4) (a2 : Int32) (M : pm_M) : (if nI j = 0 then (pm_bd (sC_readState_0_40 M) fun v8 M7 => if ¬ v8 = 0 then (pm_bd (sStates_weightOf_23_48 M7) fun v10 M9 => pm_bd (sStates_constantOf (M9.1 5 0) (M9.1 5 1) (M9.1 1 0) M9) fun v12 M11 => pm_bd (sC_fraction v10 v12 a2 M11) fun v14 M13 => some (v14, M13)) else (some ((-4611686018427387904 : Int64), M7))) else if nI j = 1 then (pm_bd (sC_readState_0_42 M) fun v16 M15 => if ¬ v16 = 0 then (pm_bd (sStates_weightOf_23_48 M15) fun v18 M17 => pm_bd (sStates_constantOf (M17.1 5 0) (M17.1 5 1) (M17.1 1 0) M17) fun v20 M19 => pm_bd (sC_fraction v18 v20 a2 M19) fun v22 M21 => some (v22, M21)) else (some ((-4611686018427387904 : Int64), M15))) else if nI j = 2 then (pm_bd (sC_readState_0_44 M) fun v24 M23 => if ¬ v24 = 0 then (pm_bd (sStates_weightOf_23_48 M23) fun v26 M25 => pm_bd (sStates_constantOf (M25.1 5 0) (M25.1 5 1) (M25.1 1 0) M25) fun v28 M27 => pm_bd (sC_fraction v26 v28 a2 M27) fun v30 M29 => some (v30, M29)) else (some ((-4611686018427387904 : Int64), M23))) else if nI j = 3 then (pm_bd (sC_readState_0_46 M) fun v32 M31 => if ¬ v32 = 0 then (pm_bd (sStates_weightOf_23_48 M31) fun v34 M33 => pm_bd (sStates_constantOf (M33.1 5 0) (M33.1 5 1) (M33.1 1 0) M33) fun v36 M35 => pm_bd (sC_fraction v34 v36 a2 M35) fun v38 M37 => some (v38, M37)) else (some ((-4611686018427387904 : Int64), M31))) else none) = gC_odds (40 + 2 * j) (41 + 2 * j) a2 M := by
  unfold gC_odds
  rcases (show j = 0 ∨ j = 1 ∨ j = 2 ∨ j = 3 by omega) with rfl | rfl | rfl | rfl
  · simp only [show nI 0 = (0 : Int32) from rfl, show 40 + 2 * 0 = 40 from rfl, show 41 + 2 * 0 = 41 from rfl, sf01, sf02, sf03, sf10, sf12, sf13, sf20, sf21, sf23, sf30, sf31, sf32, eq_self, if_true, if_false, read_40]
  · simp only [show nI 1 = (1 : Int32) from rfl, show 40 + 2 * 1 = 42 from rfl, show 41 + 2 * 1 = 43 from rfl, sf01, sf02, sf03, sf10, sf12, sf13, sf20, sf21, sf23, sf30, sf31, sf32, eq_self, if_true, if_false, read_42]
  · simp only [show nI 2 = (2 : Int32) from rfl, show 40 + 2 * 2 = 44 from rfl, show 41 + 2 * 2 = 45 from rfl, sf01, sf02, sf03, sf10, sf12, sf13, sf20, sf21, sf23, sf30, sf31, sf32, eq_self, if_true, if_false, read_44]
  · simp only [show nI 3 = (3 : Int32) from rfl, show 40 + 2 * 3 = 46 from rfl, show 41 + 2 * 3 = 47 from rfl, sf01, sf02, sf03, sf10, sf12, sf13, sf20, sf21, sf23, sf30, sf31, sf32, eq_self, if_true, if_false, read_46]
def rdS (d : qD) (F : Nat → Int64) : Nat → Nat := fun k => (F (qS d * (k / 5) + k % 5)).toInt.toNat
theorem rdS_at (d : qD) (F : Nat → Int64) (c : Nat) {i : Nat} (hi : i < 5) : rdS d F (5 * c + i) = (F (qS d * c + i)).toInt.toNat := by
  unfold rdS
  rw [show (5 * c + i) / 5 = c by omega, show (5 * c + i) % 5 = i by omega]
noncomputable def rdO (d : qD) (F : Nat → Int64) (c i : Nat) : Prop := 0 ≤ (F (qS d * c + i)).toInt ∧ qsu (rdS d F) c (i + 1) ≤ qP d c ∧ (rdS d F (5 * c + i) = 0 ∨ qdd d c i ≠ 0)
noncomputable def rdF (d : qD) (F : Nat → Int64) (c : Nat) : Prop := (∀ i, i < qS d → rdO d F c i) ∧ qsu (rdS d F) c (qS d) = qP d c
theorem it3 (v : Int64) {L : Nat} (hL : L ≤ 8) : v < 0 ∨ (¬ v < 0 ∧ ¬ v ≤ nL L ∧ L < v.toInt.toNat) ∨ ∃ m, m ≤ L ∧ v = nL m ∧ v.toInt = m := by
  by_cases h : v < 0
  · exact Or.inl h
  refine Or.inr ?_
  have h0 : 0 ≤ v.toInt := by
    rw [Int64.lt_iff_toInt_lt, Int64.toInt_zero] at h
    omega
  by_cases h2 : v ≤ nL L
  · refine Or.inr ⟨v.toInt.toNat, ?_, ?_, ?_⟩
    · rw [Int64.le_iff_toInt_le, nL_toInt (by omega)] at h2
      omega
    · rw [← Int64.toInt_inj, nL_toInt]
      · omega
      · have := Int64.toInt_lt v
        omega
    · omega
  · refine Or.inl ⟨h, h2, ?_⟩
    rw [Int64.le_iff_toInt_le, nL_toInt (by omega)] at h2
    omega
theorem qdd_vi {d : qD} (hd : qOK d) {c s : Nat} (hc : c < 2) (hs : s < qS d) (hp : qP d c ≠ 0) : qdd d c s = 0 ↔ qvi d c s = 0 := by
  unfold qdd qde
  rw [if_neg hp]
  have := qtm_1 hd hc hs
  constructor
  · intro h
    rcases Nat.mul_eq_zero.mp h with h | h
    · exact h
    · omega
  · intro h
    rw [h, Nat.zero_mul]
theorem nL_32 {m : Nat} (h : m ≤ 8) : (nL m).toInt32 = nI m := by
  rcases (show m = 0 ∨ m = 1 ∨ m = 2 ∨ m = 3 ∨ m = 4 ∨ m = 5 ∨ m = 6 ∨ m = 7 ∨ m = 8 by omega) with rfl | rfl | rfl | rfl | rfl | rfl | rfl | rfl | rfl <;> rfl
/-- how far the class's row 48 is written -/
def rd48 (d : qD) (F : Nat → Int64) (M a : pm_M) (c s : Nat) : Prop := a.2 = M.2 ∧ (∀ b, b ≠ 48 → a.1 b = M.1 b) ∧ ∀ c' i, i < qS d → c' < c ∨ (c' = c ∧ i < s) → a.1 48 (5 * c' + i) = nI (rdS d F (5 * c' + i))
theorem C_rd_in {d : qD} {M a : pm_M} (hd : qOK d) (hC : qC M d) (hT : qTo M d) {l : Nat} {F : Nat → Int64} (hF : ∀ x, x < 40 → M.2 l x = F x) {c : Nat} (hc : c < 2) (ha : rd48 d F M a c 0) (g3 : Int32 → pm_M → Option (Int32 × pm_M)) : (rdF d F c ∧ ∃ a', rd48 d F M a' c (qS d) ∧ (fun (x5 : Int32) (M4 : pm_M) (x6 : Int32) => pm_loop (fun _ _ _ => none) (fun (g7 : Int32 → Int32 → pm_M → Option (Int32 × pm_M)) x9 x10 M8 => if (M8.1 1 0) ≤ x10 then (if x9 = 0 then (pm_lt ((x5 + (1 : Int32))) fun x11 => g3 x11 M8) else (some ((0 : Int32), M8))) else (if pm_in ((x5 * (M8.1 1 0)) + x10) 40 then (pm_lt ((M8.2 l ((x5 * (M8.1 1 0)) + x10).toNatClampNeg)) fun x12 => if (lg_cmp x12 (0 : Int64)) < 0 then (some ((0 : Int32), M8)) else (if (lg_cmp x12 x9.toInt64) ≤ 0 then (pm_jn (fun (M14 : pm_M) => if pm_in ((x5 * (5 : Int32)) + x10) 10 then (pm_lt (pm_sI M14 48 ((x5 * (5 : Int32)) + x10).toNatClampNeg (x12.toInt32)) fun M15 => pm_lt ((x9 - x12.toInt32)) fun x16 => pm_lt ((x10 + (1 : Int32))) fun x17 => g7 x16 x17 M15) else none) fun (j13 : pm_M → Option (Int32 × pm_M)) => if (lg_cmp x12 (0 : Int64)) ≤ 0 then (j13 M8) else (pm_bd (sTours_visitsOf x5 x10 M8) fun v19 M18 => if ¬ (lg_cmp v19 (0 : Int64)) = 0 then (j13 M18) else (some ((0 : Int32), M18)))) else (some ((0 : Int32), M8)))) else none)) 1000000 x6 (0 : Int32) M4) (nI c) a (nI (qP d c)) = g3 (nI (c + 1)) a') ∨ (¬ rdF d F c ∧ ∃ a', rd48 d F M a' 0 0 ∧ (fun (x5 : Int32) (M4 : pm_M) (x6 : Int32) => pm_loop (fun _ _ _ => none) (fun (g7 : Int32 → Int32 → pm_M → Option (Int32 × pm_M)) x9 x10 M8 => if (M8.1 1 0) ≤ x10 then (if x9 = 0 then (pm_lt ((x5 + (1 : Int32))) fun x11 => g3 x11 M8) else (some ((0 : Int32), M8))) else (if pm_in ((x5 * (M8.1 1 0)) + x10) 40 then (pm_lt ((M8.2 l ((x5 * (M8.1 1 0)) + x10).toNatClampNeg)) fun x12 => if (lg_cmp x12 (0 : Int64)) < 0 then (some ((0 : Int32), M8)) else (if (lg_cmp x12 x9.toInt64) ≤ 0 then (pm_jn (fun (M14 : pm_M) => if pm_in ((x5 * (5 : Int32)) + x10) 10 then (pm_lt (pm_sI M14 48 ((x5 * (5 : Int32)) + x10).toNatClampNeg (x12.toInt32)) fun M15 => pm_lt ((x9 - x12.toInt32)) fun x16 => pm_lt ((x10 + (1 : Int32))) fun x17 => g7 x16 x17 M15) else none) fun (j13 : pm_M → Option (Int32 × pm_M)) => if (lg_cmp x12 (0 : Int64)) ≤ 0 then (j13 M8) else (pm_bd (sTours_visitsOf x5 x10 M8) fun v19 M18 => if ¬ (lg_cmp v19 (0 : Int64)) = 0 then (j13 M18) else (some ((0 : Int32), M18)))) else (some ((0 : Int32), M8)))) else none)) 1000000 x6 (0 : Int32) M4) (nI c) a (nI (qP d c)) = some ((0 : Int32), a')) := by
  have hS := hd.1
  have hP := hd.2.2.2.2.2.1 c
  dsimp only
  refine q_fx (fun r => (rdF d F c ∧ ∃ a', rd48 d F M a' c (qS d) ∧ r = g3 (nI (c + 1)) a') ∨ (¬ rdF d F c ∧ ∃ a', rd48 d F M a' 0 0 ∧ r = some ((0 : Int32), a'))) (fun i a (g : Int32 → Int32 → pm_M → Option (Int32 × pm_M)) => g (nI (qP d c - qsu (rdS d F) c i)) (nI i) a) (fun i a => rd48 d F M a c i ∧ (∀ j, j < i → rdO d F c j) ∧ qsu (rdS d F) c i ≤ qP d c) (qS d) ?_ ?_ (n := 1000000) (a := a) (by omega) ⟨ha, fun j hj => absurd hj (Nat.not_lt_zero j), Nat.zero_le _⟩
  · rintro i a hi ⟨⟨a1, a2, a3⟩, ho, hq⟩ g
    have hin40 : pm_in (nI (qS d * c + i)) 40 := by
      rw [nI_in_iff (by have : qS d * c ≤ 5 * 1 := Nat.mul_le_mul hS (by omega); omega)]
      have : qS d * c ≤ 5 * 1 := Nat.mul_le_mul hS (by omega)
      omega
    have hb : qS d * c + i < 40 := by have : qS d * c ≤ 5 * 1 := Nat.mul_le_mul hS (by omega); omega
    have hin10 : pm_in (nI (5 * c + i)) 10 := by rw [nI_in_iff (by omega)]; omega
    rw [a2 1 (by decide), hC.1, if_neg (by rw [nI_le_iff (by omega) (by omega)]; omega), nI_mul, Nat.mul_comm c (qS d), qI_add, if_pos hin40, nI_cl _ (by omega), a1, hF _ hb, q_lt]
    simp only [cmp_lt, cmp_le, cmp_eq]
    have hat := rdS_at d F c (show i < 5 by omega)
    have hs1 : qsu (rdS d F) c (i + 1) = qsu (rdS d F) c i + rdS d F (5 * c + i) := qsu_s _ _ _
    have hbad : ¬ rdO d F c i → ∃ a', rd48 d F M a' 0 0 ∧ some ((0 : Int32), a) = some ((0 : Int32), a') := fun _ => ⟨a, ⟨a1, a2, fun c' i' _ h => absurd h (by omega)⟩, rfl⟩
    rcases it3 (F (qS d * c + i)) (show qP d c - qsu (rdS d F) c i ≤ 8 by omega) with v1 | ⟨v1, v2, v3⟩ | ⟨m, m1, m2, m3⟩
    · have hno : ¬ rdO d F c i := fun q => by
        have := q.1
        rw [Int64.lt_iff_toInt_lt, Int64.toInt_zero] at v1
        omega
      left; right
      rw [if_pos v1]
      exact ⟨fun q => hno (q.1 i hi), hbad hno⟩
    · have hno : ¬ rdO d F c i := fun q => by
        have := q.2.1
        omega
      left; right
      rw [if_neg v1, nI_toL (by omega), if_neg v2]
      exact ⟨fun q => hno (q.1 i hi), hbad hno⟩
    · have hn0 : ¬ nL m < 0 := by
        rw [Int64.lt_iff_toInt_lt, nL_toInt (by omega), Int64.toInt_zero]
        omega
      have hle : nL m ≤ nL (qP d c - qsu (rdS d F) c i) := by
        rw [Int64.le_iff_toInt_le, nL_toInt (by omega), nL_toInt (by omega)]
        omega
      have hm : rdS d F (5 * c + i) = m := by rw [hat, m3]; rfl
      rw [m2, if_neg hn0, nI_toL (by omega), if_pos hle]
      have hstep : (rdS d F (5 * c + i) = 0 ∨ qdd d c i ≠ 0) → ∀ J : pm_M → Option (Int32 × pm_M), J = (fun (M14 : pm_M) => if pm_in ((nI c * (5 : Int32)) + nI i) 10 then (pm_lt (pm_sI M14 48 ((nI c * (5 : Int32)) + nI i).toNatClampNeg ((nL m).toInt32)) fun M15 => pm_lt ((nI (qP d c - qsu (rdS d F) c i) - (nL m).toInt32)) fun x16 => pm_lt ((nI i + (1 : Int32))) fun x17 => g x16 x17 M15) else none) → ∃ a', (rd48 d F M a' c (i + 1) ∧ (∀ j, j < i + 1 → rdO d F c j) ∧ qsu (rdS d F) c (i + 1) ≤ qP d c) ∧ J a = g (nI (qP d c - qsu (rdS d F) c (i + 1))) (nI (i + 1)) a' := by
        intro hz J hJ
        refine ⟨pm_sI a 48 (5 * c + i) (nI m), ⟨⟨a1, fun b hb => by rw [sI_1, if_neg hb, a2 b hb], fun c' i' hi' h => ?_⟩, fun j hj => ?_, by omega⟩, ?_⟩
        · rw [sI_1, if_pos rfl]
          unfold upd
          by_cases z : 5 * c' + i' = 5 * c + i
          · rw [if_pos z, z, hm]
          · rw [if_neg z]
            exact a3 c' i' hi' (by omega)
        · by_cases z : j = i
          · rw [z]
            exact ⟨by rw [m3]; omega, by omega, hz⟩
          · exact ho j (by omega)
        · rw [hJ]
          dsimp only
          rw [qcs', if_pos hin10, q_lt, q_lt, q_lt, nI_cl _ (by omega), nL_32 (by omega), nI_sub (by omega), ← nI_succ, show qP d c - qsu (rdS d F) c i - m = qP d c - qsu (rdS d F) c (i + 1) by omega]
      rw [q_jn]
      by_cases z0 : m = 0
      · right
        rw [if_pos (show nL m ≤ 0 by rw [z0]; decide)]
        exact hstep (Or.inl (by rw [hm]; exact z0)) _ rfl
      · have hnle : ¬ nL m ≤ 0 := by
          rw [Int64.le_iff_toInt_le, nL_toInt (by omega), Int64.toInt_zero]
          omega
        have hTa : qTo a d := qTo_of hT (fun b b1 b2 => a2 b (by omega)) (fun b b1 b2 => by rw [a1])
        have hvb := qvi_le hd hc i
        have hPne : qP d c ≠ 0 := by omega
        have hz : nL (qvi d c i) = 0 ↔ qvi d c i = 0 := by
          constructor
          · intro q
            have := nL_toInt (show qvi d c i < 2 ^ 63 by omega)
            rw [q, Int64.toInt_zero] at this
            omega
          · intro q
            rw [q]
            rfl
        rw [if_neg hnle, Tours_visitsOf hTa hc hi hS, q_bd]
        by_cases w : qvi d c i = 0
        · have hno : ¬ rdO d F c i := fun q => by
            rcases q.2.2 with q | q
            · omega
            · exact q ((qdd_vi hd hc hi hPne).mpr w)
          left; right
          rw [if_neg (fun q => q (hz.mpr w))]
          exact ⟨fun q => hno (q.1 i hi), hbad hno⟩
        · right
          rw [if_pos (fun q => w (hz.mp q))]
          exact hstep (Or.inr (fun q => w ((qdd_vi hd hc hi hPne).mp q))) _ rfl
  · rintro a ⟨⟨a1, a2, a3⟩, ho, hq⟩ g
    rw [a2 1 (by decide), hC.1, if_pos (Int32.le_refl _)]
    by_cases z : qsu (rdS d F) c (qS d) = qP d c
    · left
      rw [if_pos (show nI (qP d c - qsu (rdS d F) c (qS d)) = 0 by rw [z, Nat.sub_self]; rfl), q_lt, ← nI_succ]
      exact ⟨⟨ho, z⟩, a, ⟨a1, a2, a3⟩, rfl⟩
    · right
      rw [if_neg (fun q => by rw [q0, nI_inj (by omega) (by omega)] at q; omega)]
      exact ⟨fun q => z q.2, a, ⟨a1, a2, fun c' i' _ h => absurd h (by omega)⟩, rfl⟩
