/-! RATES -/
def qNO : Int64 := -4611686018427387904
def qra (T : Nat → Nat → Nat) (c x y : Nat) : Nat := if c = 0 then x * T (x - 1) y else y * T x (y - 1)
theorem qra_le {T : Nat → Nat → Nat} (hT : ∀ x y, x ≤ 6 → y ≤ 6 → x + y ≤ 7 → T x y ≤ 2128896000000000) (c : Nat) {x y : Nat} (hx : x ≤ 6) (hy : y ≤ 6) (h8 : x + y ≤ 8) : qra T c x y ≤ 12773376000000000 := by
  unfold qra
  by_cases hc : c = 0
  · rw [if_pos hc]
    by_cases h0 : x = 0
    · rw [h0, Nat.zero_mul]; omega
    · exact Nat.le_trans (Nat.mul_le_mul hx (hT (x - 1) y (by omega) hy (by omega))) (by decide)
  · rw [if_neg hc]
    by_cases h0 : y = 0
    · rw [h0, Nat.zero_mul]; omega
    · exact Nat.le_trans (Nat.mul_le_mul hy (hT x (y - 1) hx (by omega) (by omega))) (by decide)
theorem nI_c0 {c : Nat} (hc : c < 2) : nI c = 0 ↔ c = 0 := by rw [q0, nI_inj (by omega) (by omega)]
theorem nI_c1 {c : Nat} (hc : c < 2) : nI c = 1 ↔ c = 1 := by rw [q1, nI_inj (by omega) (by omega)]
theorem States_oneLess {N : pm_M} {T : Nat → Nat → Nat} {c n0 n1 : Nat} (hc : c < 2) (h0 : n0 ≤ 6) (h1 : n1 ≤ 6) (t : ∀ x y, x ≤ n0 → y ≤ n1 → N.2 26 (7 * x + y) = nL (T x y)) : sStates_oneLessAbove (nI c) (nI n0) (nI n1) N = some (nL (qra T c n0 n1), N) := by
  unfold sStates_oneLessAbove qra
  by_cases z : c = 0
  · rw [if_neg (fun w => w ((nI_c0 hc).mpr z)), if_pos z]
    by_cases y : n0 = 0
    · rw [y, if_pos (by decide), Nat.zero_mul]; rfl
    · rw [if_neg (by rw [q0, nI_le_iff (by omega) (by omega)]; omega), q1, nI_sub (by omega), q7s, if_pos (by rw [nI_in_iff (by omega)]; omega), nI_clamp (by omega), t _ _ (by omega) (Nat.le_refl _), nI_toL (by omega), nL_mul]
  · rw [if_pos (fun w => z ((nI_c0 hc).mp w)), if_neg z]
    by_cases y : n1 = 0
    · rw [y, if_pos (by decide), Nat.zero_mul]; rfl
    · rw [if_neg (by rw [q0, nI_le_iff (by omega) (by omega)]; omega), q7s, q1, nI_sub (by omega), if_pos (by rw [nI_in_iff (by omega)]; omega), nI_clamp (by omega), show 7 * n0 + n1 - 1 = 7 * n0 + (n1 - 1) by omega, t _ _ (Nat.le_refl _) (by omega), nI_toL (by omega), nL_mul]
theorem R_rateAbove {N : pm_M} {T : Nat → Nat → Nat} (h : qTR N T) {c p q : Nat} (hc : c < 2) (hp : p ≤ 6) (hq : q ≤ 6) (h8 : p + q ≤ 8) : sR_rateAbove (nI c) (nI p) (nI q) N = some (nL (qra T c p q), N) := by
  unfold sR_rateAbove qra
  by_cases z : c = 0
  · rw [if_neg (fun w => w ((nI_c0 hc).mpr z)), if_pos z]
    by_cases y : p = 0
    · have : sR_whole (nI p - 1) (nI q) N = some (0, N) := by
        unfold sR_whole
        rw [y, if_pos (by decide)]
      rw [this, q_bd, y, Nat.zero_mul]
      rfl
    · rw [q1, nI_sub (by omega), R_whole h (by omega) hq (by omega), q_bd, nI_toL (by omega), nL_mul]
  · rw [if_pos (fun w => z ((nI_c0 hc).mp w)), if_neg z]
    by_cases y : q = 0
    · have : sR_whole (nI p) (nI q - 1) N = some (0, N) := by
        unfold sR_whole
        rw [y, if_neg (nI_nneg (by omega)), if_neg (by decide)]
      rw [this, q_bd, y, Nat.zero_mul]
      rfl
    · rw [q1, nI_sub (by omega), R_whole h hp (by omega) (by omega), q_bd, nI_toL (by omega), nL_mul]
theorem C_rateOf {M : pm_M} {d : qD} (hd : qOK d) (hC : qC M d) (hSt : qSt M d (qdd d)) (hs : qsnd d) {c own other n0 n1 l : Nat} (hc : c < 2) (e0 : n0 = if c = 0 then own else other) (e1 : n1 = if c = 0 then other else own) (h0 : n0 ≤ 6) (h1 : n1 ≤ 6) (h8 : n0 + n1 ≤ 8) (hpos : 0 < qcn (qdd d) (qK d) 9 (qS d) n0 n1) (hl : l < 2) : ∃ M', sC_rateOf (nI c) (nI own) (nI other) (nI l) M = some (nL (qfrc (qra (qcn (qdd d) (qK d) 9 (qS d)) c n0 n1) (qcn (qdd d) (qK d) 9 (qS d) n0 n1) l), M') ∧ qfL [26, 27] M M' := by
  have hS := hd.1
  obtain ⟨M', e, f, t⟩ := States_constantOf hd hSt (n0 := n0) (n1 := n1) (m := qS d) h0 h1 h8 (Nat.le_refl _)
  refine ⟨M', ?_, f⟩
  have b1 := qra_le (T := qcn (qdd d) (qK d) 9 (qS d)) (fun x y hx hy hxy => qcn_7 (qK d) (qdd_20 hd hs) 9 hS hx hy hxy) c h0 h1 h8
  have b2 := qcn_8 (qK d) (qdd_20 hd hs) 9 hS h0 h1 h8
  have main : (pm_bd (sStates_constantOf (nI n0) (nI n1) (M.1 1 0) M) fun v8 M7 => pm_bd (sStates_oneLessAbove (nI c) (nI n0) (nI n1) M7) fun v10 M9 => pm_bd (sC_fraction v10 v8 (nI l) M9) fun v12 M11 => some (v12, M11)) = some (nL (qfrc (qra (qcn (qdd d) (qK d) 9 (qS d)) c n0 n1) (qcn (qdd d) (qK d) 9 (qS d) n0 n1) l), M') := by
    rw [hC.1, e, q_bd, States_oneLess hc h0 h1 t, q_bd, C_fraction (by omega) (by omega) hpos hl, q_bd]
  unfold sC_rateOf
  simp only [q_jn]
  by_cases z : c = 0
  · rw [if_pos z] at e0 e1
    rw [if_neg (fun w => w ((nI_c0 hc).mpr z)), if_neg (fun w => w ((nI_c0 hc).mpr z)), ← e0, ← e1]
    exact main
  · rw [if_neg z] at e0 e1
    rw [if_pos (fun w => z ((nI_c0 hc).mp w)), if_pos (fun w => z ((nI_c0 hc).mp w)), ← e0, ← e1]
    exact main
/-! limits -/
def qal (D : Nat → Nat → Nat) (K : Nat → Nat) (c w : Nat) : Nat → Nat := qsm (fun s => if (if K s = 3 then 1 else 0) = w then D c s else 0)
def qmo (D : Nat → Nat → Nat) (K : Nat → Nat) (c : Nat) : Nat → Nat
  | 0 => 0
  | n + 1 => if K n = 3 then qmo D K c n else max (qmo D K c n) (D c n)
theorem qal_le {D : Nat → Nat → Nat} (K : Nat → Nat) {c : Nat} (hD : ∀ s, D c s ≤ 20) (w : Nat) : ∀ n, qal D K c w n ≤ 20 * n
  | 0 => Nat.le_refl _
  | n + 1 => by
    have ih := qal_le K hD w n
    have h := hD n
    show qal D K c w n + (if (if K n = 3 then 1 else 0) = w then D c n else 0) ≤ _
    have : (if (if K n = 3 then 1 else 0) = w then D c n else 0) ≤ D c n := by
      by_cases q : (if K n = 3 then 1 else 0) = w
      · rw [if_pos q]; exact Nat.le_refl _
      · rw [if_neg q]; exact Nat.zero_le _
    omega
theorem qmo_le {D : Nat → Nat → Nat} (K : Nat → Nat) {c : Nat} (hD : ∀ s, D c s ≤ 20) : ∀ n, qmo D K c n ≤ 20
  | 0 => by show 0 ≤ 20; omega
  | n + 1 => by
    have ih := qmo_le K hD n
    show (if K n = 3 then qmo D K c n else max (qmo D K c n) (D c n)) ≤ 20
    split
    · exact ih
    · exact Nat.max_le.mpr ⟨ih, hD n⟩
theorem qal_pos {D : Nat → Nat → Nat} (K : Nat → Nat) {c s n : Nat} (hs : s < n) (hD : 0 < D c s) : 0 < qal D K c 0 n + qal D K c 1 n := by
  by_cases h : K s = 3
  · have := qsm_at (f := fun s => if (if K s = 3 then 1 else 0) = 1 then D c s else 0) n hs
    simp only [h, if_true] at this
    unfold qal
    omega
  · have := qsm_at (f := fun s => if (if K s = 3 then 1 else 0) = 0 then D c s else 0) n hs
    simp only [h, if_true, if_false] at this
    unfold qal
    omega
theorem C_demandTogether {M : pm_M} {d : qD} (hd : qOK d) (hC : qC M d) (hT : qTo M d) {c w : Nat} (hc : c < 2) (hw : w < 2) : sC_demandTogether (nI c) (nI w) M = some (nL (qal (qde d) (qK d) c w (qS d)), M) := by
  have hS := hd.1
  unfold sC_demandTogether
  refine q_for (fun i (g : Int64 → Int32 → pm_M → Option (Int64 × pm_M)) => g (nL (qal (qde d) (qK d) c w i)) (nI i) M) (N := qS d) ?_ ?_ (by omega)
  · intro i hi g
    have hK := hd.2.1 i
    have hk : nI (qK d i) = 3 ↔ qK d i = 3 := by rw [q3, nI_inj (by omega) (by omega)]
    have hn : qal (qde d) (qK d) c w (i + 1) = qal (qde d) (qK d) c w i + (if (if qK d i = 3 then 1 else 0) = w then qde d c i else 0) := rfl
    have main : ∀ q : Nat, q = (if qK d i = 3 then 1 else 0) → (if ¬ nI q = nI w then (pm_lt (nI i + (1 : Int32)) fun x8 => g (nL (qal (qde d) (qK d) c w i)) x8 M) else (pm_bd (sTours_demandOf (nI c) (nI i) M) fun v10 M9 => pm_lt (nL (qal (qde d) (qK d) c w i) + v10) fun x11 => pm_lt (nI i + (1 : Int32)) fun x12 => g x11 x12 M9)) = g (nL (qal (qde d) (qK d) c w (i + 1))) (nI (i + 1)) M := by
      intro q hq
      have hq2 : q < 2 := by rw [hq]; split <;> omega
      rw [hn, ← hq]
      by_cases z : q = w
      · rw [if_pos z, if_neg (fun u => u ((nI_inj (by omega) (by omega)).mpr z)), Tours_demandOf hT hc hi hS, q_bd, q_lt, q_lt, nL_add, ← nI_succ]
      · rw [if_neg z, if_pos (fun u => z ((nI_inj (by omega) (by omega)).mp u)), q_lt, ← nI_succ]
        rfl
    rw [hC.1, if_neg (by rw [nI_le_iff (by omega) (by omega)]; omega), if_pos (by rw [nI_in_iff (by omega)]; omega), nI_clamp (by omega), hC.2.1]
    rw [q_jn]
    by_cases z : qK d i = 3
    · rw [if_neg (fun u => u (hk.mpr z))]
      exact main 1 (by rw [if_pos z])
    · rw [if_pos (fun u => z (hk.mp u))]
      exact main 0 (by rw [if_neg z])
  · intro g
    rw [hC.1, if_pos (Int32.le_refl _)]
theorem C_demandMost {M : pm_M} {d : qD} (hd : qOK d) (hC : qC M d) (hT : qTo M d) {c : Nat} (hc : c < 2) (h20 : ∀ s, qde d c s ≤ 20) : sC_demandMost (nI c) M = some (nL (qmo (qde d) (qK d) c (qS d)), M) := by
  have hS := hd.1
  unfold sC_demandMost
  refine q_for (fun i (g : Int64 → Int32 → pm_M → Option (Int64 × pm_M)) => g (nL (qmo (qde d) (qK d) c i)) (nI i) M) (N := qS d) ?_ ?_ (by omega)
  · intro i hi g
    have hK := hd.2.1 i
    have hk : nI (qK d i) = 3 ↔ qK d i = 3 := by rw [q3, nI_inj (by omega) (by omega)]
    have hm := qmo_le (qK d) h20 i
    have hn : qmo (qde d) (qK d) c (i + 1) = if qK d i = 3 then qmo (qde d) (qK d) c i else max (qmo (qde d) (qK d) c i) (qde d c i) := rfl
    have h2 := h20 i
    rw [hC.1, if_neg (by rw [nI_le_iff (by omega) (by omega)]; omega), if_pos (by rw [nI_in_iff (by omega)]; omega), nI_clamp (by omega), hC.2.1, hn]
    by_cases z : qK d i = 3
    · rw [if_pos (hk.mpr z), if_pos z, q_lt, ← nI_succ]
    · rw [if_neg (fun u => z (hk.mp u)), if_neg z, Tours_demandOf hT hc hi hS, q_bd, q_lt, q_lt, nL_max (by omega) (by omega), ← nI_succ]
  · intro g
    rw [hC.1, if_pos (Int32.le_refl _)]
theorem R_all {M : pm_M} {d : qD} (hd : qOK d) (hR : qR M d) (hD : qDm M d) {c w : Nat} (hc : c < 2) (hw : w < 2) : sR_all (nI c) (nI w) M = some (nL (qal (qdd d) (qK d) c w (qS d)), M) := by
  have hS := hd.1
  unfold sR_all
  refine q_for (fun i (g : Int64 → Int32 → pm_M → Option (Int64 × pm_M)) => g (nL (qal (qdd d) (qK d) c w i)) (nI i) M) (N := qS d) ?_ ?_ (by omega)
  · intro i hi g
    have hK := hd.2.1 i
    have hk : nI (qK d i) = 3 ↔ qK d i = 3 := by rw [q3, nI_inj (by omega) (by omega)]
    have hn : qal (qdd d) (qK d) c w (i + 1) = qal (qdd d) (qK d) c w i + (if (if qK d i = 3 then 1 else 0) = w then qdd d c i else 0) := rfl
    have hin : pm_in (nI (5 * c + i)) 10 := by rw [nI_in_iff (by omega)]; omega
    have hck : (nI (5 * c + i)).toNatClampNeg = 5 * c + i := nI_clamp (by omega)
    have main : ∀ q : Nat, q = (if qK d i = 3 then 1 else 0) → (if ¬ nI q = nI w then (pm_lt (nI i + (1 : Int32)) fun x8 => g (nL (qal (qdd d) (qK d) c w i)) x8 M) else (if pm_in ((5 : Int32) * nI c + nI i) 10 then pm_lt (nL (qal (qdd d) (qK d) c w i) + M.2 60 ((5 : Int32) * nI c + nI i).toNatClampNeg) fun x11 => pm_lt (nI i + (1 : Int32)) fun x12 => g x11 x12 M else none)) = g (nL (qal (qdd d) (qK d) c w (i + 1))) (nI (i + 1)) M := by
      intro q hq
      have hq2 : q < 2 := by rw [hq]; split <;> omega
      rw [hn, ← hq, qcs, if_pos hin, hck, hD.1 c i hc (by omega)]
      by_cases z : q = w
      · rw [if_pos z, if_neg (fun u => u ((nI_inj (by omega) (by omega)).mpr z)), q_lt, q_lt, nL_add, ← nI_succ]
      · rw [if_neg z, if_pos (fun u => z ((nI_inj (by omega) (by omega)).mp u)), q_lt, ← nI_succ]
        rfl
    rw [hR.1, if_neg (by rw [nI_le_iff (by omega) (by omega)]; omega), if_pos (by rw [nI_in_iff (by omega)]; omega), nI_clamp (n := i) (by omega), hR.2.1]
    rw [q_jn]
    by_cases z : qK d i = 3
    · rw [if_neg (fun u => u (hk.mpr z))]
      exact main 1 (by rw [if_pos z])
    · rw [if_pos (fun u => z (hk.mp u))]
      exact main 0 (by rw [if_neg z])
  · intro g
    rw [hR.1, if_pos (Int32.le_refl _)]
/-- what a limit is -/
def qlm (D : Nat → Nat → Nat) (K : Nat → Nat) (c n S w l : Nat) : Nat :=
  if w = 4 then qfrc n (n * qal D K c 0 S + qal D K c 1 S) l
  else if 0 < qmo D K c S ∧ qal D K c 0 S + qal D K c 1 S < n * qmo D K c S then qfrc 1 (qmo D K c S) l else qfrc n (qal D K c 0 S + qal D K c 1 S) l
theorem qal_cg {D E : Nat → Nat → Nat} (K : Nat → Nat) {c : Nat} (h : ∀ s, D c s = E c s) (w n : Nat) : qal D K c w n = qal E K c w n := qsm_cg n (fun s _ => by rw [h s])
theorem qmo_cg {D E : Nat → Nat → Nat} (K : Nat → Nat) {c : Nat} (h : ∀ s, D c s = E c s) : ∀ n, qmo D K c n = qmo E K c n
  | 0 => rfl
  | n + 1 => by
    show (if K n = 3 then qmo D K c n else max (qmo D K c n) (D c n)) = (if K n = 3 then qmo E K c n else max (qmo E K c n) (E c n))
    rw [qmo_cg K h n, h n]
theorem C_limit {M : pm_M} {d : qD} (hd : qOK d) (hC : qC M d) (hT : qTo M d) (hs : qsnd d) {c l : Nat} (hc : c < 2) (hp : qP d c ≠ 0) (hl : l < 2) : sC_limitAbove (nI c) (nI l) M = some (nL (qlm (qdd d) (qK d) c (qP d c) (qS d) 3 l), M) ∧ sC_limitBelow (nI c) (nI l) M = some (nL (qlm (qdd d) (qK d) c (qP d c) (qS d) 4 l), M) := by
  have hS := hd.1
  have hP := hd.2.2.2.2.2.1 c
  have hde : ∀ s, qdd d c s = qde d c s := fun s => if_neg hp
  have h20 : ∀ s, qde d c s ≤ 20 := fun s => by rw [← hde s]; exact qdd_20 hd hs c s hc
  obtain ⟨s0, s1, s2⟩ := qdd_pos hd hs hc hp
  have hpos := qal_pos (D := qdd d) (qK d) s1 s2
  have l0 := qal_le (D := qdd d) (qK d) (c := c) (fun s => qdd_20 hd hs c s hc) 0 (qS d)
  have l1 := qal_le (D := qdd d) (qK d) (c := c) (fun s => qdd_20 hd hs c s hc) 1 (qS d)
  have lm := qmo_le (D := qdd d) (qK d) (c := c) (fun s => qdd_20 hd hs c s hc) (qS d)
  have t0 : sC_demandTogether (nI c) (0 : Int32) M = _ := C_demandTogether hd hC hT hc (w := 0) (by omega)
  have t1 : sC_demandTogether (nI c) (1 : Int32) M = _ := C_demandTogether hd hC hT hc (w := 1) (by omega)
  have tm := C_demandMost hd hC hT hc h20
  rw [← qal_cg (D := qdd d) (E := qde d) (qK d) hde] at t0 t1
  rw [← qmo_cg (D := qdd d) (E := qde d) (qK d) hde] at tm
  have hin : pm_in (nI c) 2 := by rw [nI_in_iff (by omega)]; omega
  have hck : (nI c).toNatClampNeg = c := nI_clamp (by omega)
  unfold qlm
  generalize qal (qdd d) (qK d) c 0 (qS d) = A0 at *
  generalize qal (qdd d) (qK d) c 1 (qS d) = A1 at *
  generalize qmo (qdd d) (qK d) c (qS d) = Mo at *
  generalize hPP : qP d c = P at *
  have hPA : P * A0 ≤ 6 * 100 := Nat.mul_le_mul hP (by omega)
  have hPM : P * Mo ≤ 6 * 20 := Nat.mul_le_mul hP lm
  constructor
  · unfold sC_limitAbove
    rw [if_pos hin, hck, hC.2.2.2.2.1, hPP, nI_toL (by omega), q_lt, t0, q_bd, t1, q_bd, nL_add, q_lt, tm, q_bd, q_jn, nL_mul, if_neg (show ¬ 3 = 4 by decide)]
    by_cases z : 0 < Mo ∧ A0 + A1 < P * Mo
    · rw [if_pos z, if_neg (by rw [cmp_le, show (0 : Int64) = nL 0 from rfl, nL_le_iff (by omega) (by omega)]; omega), if_neg (by rw [cmp_le, Nat.mul_comm Mo, nL_le_iff (by omega) (by omega)]; omega), show (1 : Int64) = nL 1 from rfl, C_fraction (by omega) (by omega) z.1 hl, q_bd]
    · rw [if_neg z]
      have hf : (pm_bd (sC_fraction (nL P) (nL (A0 + A1)) (nI l) M) fun v12 M11 => some (v12, M11)) = some (nL (qfrc P (A0 + A1) l), M) := by rw [C_fraction (by omega) (by omega) hpos hl, q_bd]
      by_cases z1 : 0 < Mo
      · rw [if_neg (by rw [cmp_le, show (0 : Int64) = nL 0 from rfl, nL_le_iff (by omega) (by omega)]; omega), if_pos (by rw [cmp_le, Nat.mul_comm Mo, nL_le_iff (by omega) (by omega)]; omega)]
        exact hf
      · rw [if_pos (by rw [cmp_le, show (0 : Int64) = nL 0 from rfl, nL_le_iff (by omega) (by omega)]; omega)]
        exact hf
  · have hpp : 0 < P * A0 + A1 := by
      by_cases z : A0 = 0
      · omega
      · have : 0 < P * A0 := Nat.mul_pos (by omega) (by omega)
        omega
    unfold sC_limitBelow
    rw [if_pos hin, hck, hC.2.2.2.2.1, hPP, nI_toL (by omega), q_lt, t0, q_bd, t1, q_bd, nL_mul, nL_add, C_fraction (by omega) (by omega) hpp hl, q_bd, if_pos rfl]
theorem R_limit {M : pm_M} {d : qD} (hd : qOK d) (hR : qR M d) (hD : qDm M d) (hs : qsnd d) {c w l : Nat} (hc : c < 2) (hp : qP d c ≠ 0) (hl : l < 2) (hw : w = 3 ∨ w = 4) : sR_limit (nI c) (nI w) (nI l) M = some (nL (qlm (qdd d) (qK d) c (qP d c) (qS d) w l), M) := by
  have hS := hd.1
  have hP := hd.2.2.2.2.2.1 c
  obtain ⟨s0, s1, s2⟩ := qdd_pos hd hs hc hp
  have hpos := qal_pos (D := qdd d) (qK d) s1 s2
  have l0 := qal_le (D := qdd d) (qK d) (c := c) (fun s => qdd_20 hd hs c s hc) 0 (qS d)
  have l1 := qal_le (D := qdd d) (qK d) (c := c) (fun s => qdd_20 hd hs c s hc) 1 (qS d)
  have lm := qmo_le (D := qdd d) (qK d) (c := c) (fun s => qdd_20 hd hs c s hc)
  have hin : pm_in (nI c) 2 := by rw [nI_in_iff (by omega)]; omega
  have hck : (nI c).toNatClampNeg = c := nI_clamp (by omega)
  have hw4 : nI w = 4 ↔ w = 4 := by rw [q4, nI_inj (by omega) (by omega)]
  have t0 : sR_all (nI c) (0 : Int32) M = _ := R_all hd hR hD hc (w := 0) (by omega)
  have t1 : sR_all (nI c) (1 : Int32) M = _ := R_all hd hR hD hc (w := 1) (by omega)
  unfold sR_limit
  rw [t0, q_bd, t1, q_bd, if_pos hin, hck, hR.2.2.2.2.1, nI_toL (by omega), q_lt]
  unfold qlm
  have lmS := lm (qS d)
  generalize hA0 : qal (qdd d) (qK d) c 0 (qS d) = A0 at *
  generalize hA1 : qal (qdd d) (qK d) c 1 (qS d) = A1 at *
  have hPA : qP d c * A0 ≤ 6 * 100 := Nat.mul_le_mul hP (by omega)
  have hPM : qP d c * qmo (qdd d) (qK d) c (qS d) ≤ 6 * 20 := Nat.mul_le_mul hP lmS
  by_cases z4 : w = 4
  · have hpp : 0 < qP d c * A0 + A1 := by
      by_cases z : A0 = 0
      · omega
      · have : 0 < qP d c * A0 := Nat.mul_pos (by omega) (by omega)
        omega
    rw [if_neg (fun u => u (hw4.mpr z4)), if_pos z4, nL_mul, nL_add, R_part (by omega) (by omega) hpp hl, q_bd]
  · rw [if_pos (fun u => z4 (hw4.mp u)), if_neg z4]
    refine q_for (fun i (g : Int64 → Int32 → pm_M → Option (Int64 × pm_M)) => g (nL (qmo (qdd d) (qK d) c i)) (nI i) M) (N := qS d) ?_ ?_ (by omega)
    · intro i hi g
      have hK := hd.2.1 i
      have hk : nI (qK d i) = 3 ↔ qK d i = 3 := by rw [q3, nI_inj (by omega) (by omega)]
      have hm := lm i
      have h2 := qdd_20 hd hs c i hc
      have hn : qmo (qdd d) (qK d) c (i + 1) = if qK d i = 3 then qmo (qdd d) (qK d) c i else max (qmo (qdd d) (qK d) c i) (qdd d c i) := rfl
      have hin1 : pm_in (nI i) 5 := by rw [nI_in_iff (by omega)]; omega
      have hck1 : (nI i).toNatClampNeg = i := nI_clamp (by omega)
      have hin2 : pm_in (nI (5 * c + i)) 10 := by rw [nI_in_iff (by omega)]; omega
      have hck2 : (nI (5 * c + i)).toNatClampNeg = 5 * c + i := nI_clamp (by omega)
      simp only [qcs, eq_true hin1, eq_true hin2, hck1, hck2, if_true]
      rw [hR.1, if_neg (by rw [nI_le_iff (by omega) (by omega)]; omega), hR.2.1, hn, hD.1 c i hc (by omega)]
      by_cases z : qK d i = 3
      · rw [if_pos (hk.mpr z), if_pos z, q_lt, ← nI_succ]
      · rw [if_neg (fun u => z (hk.mp u)), if_neg z]
        by_cases y : qdd d c i ≤ qmo (qdd d) (qK d) c i
        · rw [if_pos (by rw [cmp_le, nL_le_iff (by omega) (by omega)]; exact y), q_lt, ← nI_succ, Nat.max_eq_left y]
        · rw [if_neg (by rw [cmp_le, nL_le_iff (by omega) (by omega)]; exact y), q_lt, q_lt, ← nI_succ, Nat.max_eq_right (by omega)]
    · intro g
      rw [hR.1, if_pos (Int32.le_refl _), q_jn, nL_add, nL_mul]
      generalize qmo (qdd d) (qK d) c (qS d) = Mo at *
      by_cases z : 0 < Mo ∧ A0 + A1 < qP d c * Mo
      · rw [if_pos z, if_neg (by rw [cmp_le, show (0 : Int64) = nL 0 from rfl, nL_le_iff (by omega) (by omega)]; omega), if_neg (by rw [cmp_ge, nL_le_iff (by omega) (by omega)]; omega), show (1 : Int64) = nL 1 from rfl, R_part (by omega) (by omega) z.1 hl, q_bd]
      · rw [if_neg z]
        have hf : (pm_bd (sR_part (nL (qP d c)) (nL (A0 + A1)) (nI l) M) fun v12 M11 => some (v12, M11)) = some (nL (qfrc (qP d c) (A0 + A1) l), M) := by rw [R_part (by omega) (by omega) hpos hl, q_bd]
        by_cases z1 : 0 < Mo
        · rw [if_neg (by rw [cmp_le, show (0 : Int64) = nL 0 from rfl, nL_le_iff (by omega) (by omega)]; omega), if_pos (by rw [cmp_ge, nL_le_iff (by omega) (by omega)]; omega)]
          exact hf
        · rw [if_pos (by rw [cmp_le, show (0 : Int64) = nL 0 from rfl, nL_le_iff (by omega) (by omega)]; omega)]
          exact hf
