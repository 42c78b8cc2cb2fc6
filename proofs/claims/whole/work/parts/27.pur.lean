/-! CALLS THAT ONLY ASK: what they may write over, and constant -/
def scI : List Nat := [21, 28, 48, 57, 58, 64, 65]
def scL : List Nat := [22, 26, 27, 49, 59, 60, 62, 63]
def qScr (M M' : pm_M) : Prop := (∀ b, b ∉ scI → M'.1 b = M.1 b) ∧ ∀ b, b ∉ scL → M'.2 b = M.2 b
theorem qScr_rf {M : pm_M} : qScr M M := ⟨fun _ _ => rfl, fun _ _ => rfl⟩
theorem qScr_tr {M M1 M2 : pm_M} (h1 : qScr M M1) (h2 : qScr M1 M2) : qScr M M2 := ⟨fun b hb => (h2.1 b hb).trans (h1.1 b hb), fun b hb => (h2.2 b hb).trans (h1.2 b hb)⟩
theorem qScr_L {l : List Nat} {M M' : pm_M} (h : qfL l M M') (hl : ∀ x ∈ l, x ∈ scL) : qScr M M' := ⟨fun b _ => by rw [h.1], fun b hb => h.2 b (fun q => hb (hl b q))⟩
def qNet (M : pm_M) (d : qD) : Prop := qOK d ∧ qC M d ∧ qR M d ∧ qTo M d ∧ qSt M d (qdd d) ∧ qFa M
theorem nin_6 : ∀ b, b < 7 → b ∉ scI := by decide
theorem nin_17 : ∀ b, b < 19 → 7 ≤ b → b ∉ scI := by decide
theorem nin_54 : ∀ b, b < 55 → 49 ≤ b → b ∉ scI := by decide
theorem nin_20 : ∀ b, b < 21 → 19 ≤ b → b ∉ scL := by decide
theorem qNet_scr {M M' : pm_M} {d : qD} (h : qNet M d) (s : qScr M M') : qNet M' d := by
  obtain ⟨h1, h2, h3, h4, h5, h6⟩ := h
  refine ⟨h1, qC_of h2 (fun b hb => s.1 b (nin_6 b (by omega))), qR_of h3 (by rw [s.1 49 (by decide)]) (fun b hb hb2 => s.1 b (nin_54 b (by omega) (by omega))), qTo_of h4 (fun b hb hb2 => s.1 b (nin_17 b (by omega) (by omega))) (fun b hb hb2 => s.2 b (nin_20 b (by omega) hb)), qSt_of h5 (fun k _ => by rw [s.1 23 (by decide)]) (s.1 24 (by decide)) (s.2 25 (by decide)), fun k hk => by rw [s.2 61 (by decide)]; exact h6 k hk⟩
def qPur {α : Type} (f g : pm_M → Option (α × pm_M)) (M : pm_M) : Prop := ∃ v M1 M2, f M = some (v, M1) ∧ g M1 = some (v, M2) ∧ qScr M M2
theorem pm_kx {x : Int32} {n : Nat} (h : pm_in x n) : ∃ k, k < n ∧ k < 2 ^ 31 ∧ x = nI k := by
  have hb : x.toNatClampNeg < 2 ^ 31 := by have := x.toInt_lt; show x.toInt.toNat < 2 ^ 31; omega
  exact ⟨x.toNatClampNeg, h.2, hb, qI_of h.1⟩
theorem pm_hi {x : Int32} {n : Nat} (hn : n < 2 ^ 31) (h : ¬ pm_in x (n + 1)) (h0 : ¬ x < 0) : nI n < x := by
  obtain ⟨k, hk, rfl⟩ := nI_ex h0
  rw [nI_in_iff hk] at h
  rw [nI_lt_iff hn hk]
  omega
theorem pm_lo {n k : Nat} (hn : n < 2 ^ 31) (h : k < n + 1) : ¬ nI n < nI k := by
  rw [nI_lt_iff hn (by omega)]
  omega
theorem ite_g {ρ : Type} {a b : Prop} [Decidable a] [Decidable b] {X Y : ρ} (h : a ∨ ¬ b) : (if a then X else if b then Y else X) = X := by
  by_cases ha : a
  · rw [if_pos ha]
  · rw [if_neg ha]
    rcases h with q | q
    · exact absurd q ha
    · rw [if_neg q]
theorem ite_g' {ρ : Type} {a b : Prop} [Decidable a] [Decidable b] {X Y : ρ} (h : a ∨ ¬ b) : (if a then X else if ¬ b then X else Y) = X := by
  by_cases ha : a
  · rw [if_pos ha]
  · rw [if_neg ha]
    rcases h with q | q
    · exact absurd q ha
    · rw [if_pos q]
theorem C_isLine (x : Int32) (M : pm_M) : sC_isLine x M = some (b2i (pm_in x 2), M) := by
  unfold sC_isLine
  by_cases h : pm_in x 2
  · obtain ⟨k, hk, -, rfl⟩ := pm_kx h
    rw [b2i_t h]
    match k, hk with
    | 0, _ => rfl
    | 1, _ => rfl
    | k + 2, h => omega
  · rw [b2i_f h]
    have h0 : ¬ x = 0 := fun q => h (by rw [q]; decide)
    have h1 : ¬ x = 1 := fun q => h (by rw [q]; decide)
    rw [if_neg h0, if_pos h1]
/-- the demands, and of who has parts the visits, stand in the reference's rows -/
def qDm (M : pm_M) (d : qD) : Prop := (∀ c s, c < 2 → s < 5 → M.2 60 (5 * c + s) = nL (qdd d c s)) ∧ ∀ c s, c < 2 → s < 5 → qP d c ≠ 0 → M.2 59 (5 * c + s) = nL (qvi d c s)
theorem R_snd {M : pm_M} {d : qD} (h : qNet M d) : ∃ M', sR_isSound M = some (q2i (qsnd d), M') ∧ qfL [59, 60] M M' ∧ (qsnd d → qDm M' d) := by
  obtain ⟨M', h1, h2, h3, h4⟩ := R_isSound h.1 h.2.2.1
  exact ⟨M', h1, ⟨h2, fun b hb => h3 b (fun q => hb (by rw [q]; decide)) (fun q => hb (by rw [q]; decide))⟩, h4⟩
theorem States_constantOf {M : pm_M} {d : qD} (hd : qOK d) {D : Nat → Nat → Nat} (h : qSt M d D) {n0 n1 m : Nat} (h0 : n0 ≤ 6) (h1 : n1 ≤ 6) (h8 : n0 + n1 ≤ 8) (hm : m ≤ qS d) : ∃ M', sStates_constantOf (nI n0) (nI n1) (nI m) M = some (nL (qcn D (qK d) 9 m n0 n1), M') ∧ qfL [26, 27] M M' ∧ qTC M' D (qK d) 9 m n0 n1 := by
  obtain ⟨M', e, f, t⟩ := States_fillConstants hd h qas_no h0 h1 h8 hm
  refine ⟨M', ?_, f, t⟩
  unfold sStates_constantOf
  rw [e, q_bv, q7s, if_pos (by rw [nI_in_iff (by omega)]; omega), nI_clamp (by omega), t n0 n1 (Nat.le_refl _) (Nat.le_refl _)]
theorem R_whole {N : pm_M} {T : Nat → Nat → Nat} (h : qTR N T) {p q : Nat} (hp : p ≤ 6) (hq : q ≤ 6) (h8 : p + q ≤ 8) : sR_whole (nI p) (nI q) N = some (nL (T p q), N) := by
  unfold sR_whole
  rw [if_neg (nI_nneg (by omega)), if_pos (by rw [q0, nI_le_iff (by omega) (by omega)]; omega), q7s', if_pos (by rw [nI_in_iff (by omega)]; omega), nI_clamp (by omega), h p q hp hq h8]
theorem bi_f2 : ∀ a, a < 7 → ∀ b, b < 7 → 0 < qfa a * qfa b ∧ qfa a * qfa b < 1000000 := by decide +kernel
theorem qdd_20 {d : qD} (hd : qOK d) (h : qsnd d) : ∀ c s, c < 2 → qdd d c s ≤ 20 := fun c s hc => qdd_le hd h hc s
theorem P_constant {M : pm_M} {d : qD} (h : qNet M d) (a1 a2 a3 a4 : Int32) : qPur (sC_constant a1 a2 a3 a4) (sR_constant a1 a2 a3 a4) M := by
  obtain ⟨hd, hC, hR, hT, hSt, hF⟩ := h
  have hS := hd.1
  have hno : ∀ {f : pm_M → Option (Int64 × pm_M)}, sR_constant a1 a2 a3 a4 M = some ((-4611686018427387904 : Int64), M) → f M = some ((-4611686018427387904 : Int64), M) → qPur f (sR_constant a1 a2 a3 a4) M := fun e1 e2 => ⟨_, M, M, e2, e1, qScr_rf⟩
  have hr0 : ∀ x : Int32, sR_in x.toInt64 0 (M.1 49 1).toInt64 M = some (b2i (pm_in x (qS d + 1)), M) := fun x => by rw [hR.1, nI_toL (by omega)]; exact R_in0 (by omega) M
  by_cases i1 : pm_in a1 7
  case neg =>
    refine hno ?_ ?_
    · unfold sR_constant
      rw [R_in06, q_bd, b2i_f i1, if_pos rfl]
    · unfold sC_constant
      by_cases z : a1 < 0
      · rw [if_pos z]
      · rw [if_neg z, if_pos (show (6 : Int32) < _ from pm_hi (n := 6) (by omega) i1 z)]
  by_cases i2 : pm_in a2 7
  case neg =>
    refine hno ?_ ?_
    · unfold sR_constant
      rw [R_in06, q_bd, b2i_t i1, if_neg (by decide), R_in06, q_bd, b2i_f i2, if_pos rfl]
    · obtain ⟨n0, h0, -, rfl⟩ := pm_kx i1
      unfold sC_constant
      rw [if_neg (nI_nneg (by omega)), if_neg (show ¬ (6 : Int32) < nI _ from pm_lo (n := 6) (by omega) (by omega))]
      by_cases z : a2 < 0
      · rw [if_pos z]
      · rw [if_neg z, if_pos (show (6 : Int32) < _ from pm_hi (n := 6) (by omega) i2 z)]
  obtain ⟨n0, h0, -, rfl⟩ := pm_kx i1
  obtain ⟨n1, h1, -, rfl⟩ := pm_kx i2
  by_cases i3 : n0 + n1 ≤ 8
  case neg =>
    refine hno ?_ ?_
    · unfold sR_constant
      rw [R_in06, q_bd, b2i_t i1, if_neg (by decide), R_in06, q_bd, b2i_t i2, if_neg (by decide), qI_add, if_pos (by rw [show (8 : Int32) = nI 8 from rfl, nI_lt_iff (by omega) (by omega)]; omega)]
    · unfold sC_constant
      rw [if_neg (nI_nneg (by omega)), if_neg (show ¬ (6 : Int32) < nI _ from pm_lo (n := 6) (by omega) (by omega)), if_neg (nI_nneg (by omega)), if_neg (show ¬ (6 : Int32) < nI _ from pm_lo (n := 6) (by omega) (by omega)), qI_add, if_neg (by rw [show (8 : Int32) = nI 8 from rfl, nI_le_iff (by omega) (by omega)]; omega)]
  have r3 : ¬ (8 : Int32) < nI (n0 + n1) := by rw [show (8 : Int32) = nI 8 from rfl, nI_lt_iff (by omega) (by omega)]; omega
  have c3 : nI (n0 + n1) ≤ (8 : Int32) := by rw [show (8 : Int32) = nI 8 from rfl, nI_le_iff (by omega) (by omega)]; omega
  by_cases i4 : pm_in a3 (qS d + 1)
  case neg =>
    refine hno ?_ ?_
    · unfold sR_constant
      rw [R_in06, q_bd, b2i_t i1, if_neg (by decide), R_in06, q_bd, b2i_t i2, if_neg (by decide), qI_add, if_neg r3, hr0, q_bd, b2i_f i4, if_pos rfl]
    · unfold sC_constant
      rw [if_neg (nI_nneg (by omega)), if_neg (show ¬ (6 : Int32) < nI _ from pm_lo (n := 6) (by omega) (by omega)), if_neg (nI_nneg (by omega)), if_neg (show ¬ (6 : Int32) < nI _ from pm_lo (n := 6) (by omega) (by omega)), qI_add, if_pos c3]
      by_cases z : a3 < 0
      · rw [if_pos z]
      · rw [if_neg z, hC.1, if_pos (pm_hi (by omega) i4 z)]
  obtain ⟨m, hm, -, rfl⟩ := pm_kx i4
  have c4 : ¬ M.1 1 0 < nI m := by rw [hC.1]; exact pm_lo (by omega) (by omega)
  by_cases i5 : pm_in a4 2
  case neg =>
    refine hno ?_ ?_
    · unfold sR_constant
      rw [R_in06, q_bd, b2i_t i1, if_neg (by decide), R_in06, q_bd, b2i_t i2, if_neg (by decide), qI_add, if_neg r3, hr0, q_bd, b2i_t i4, if_neg (by decide), R_in01, q_bd, b2i_f i5, if_pos rfl]
    · unfold sC_constant
      rw [if_neg (nI_nneg (by omega)), if_neg (show ¬ (6 : Int32) < nI _ from pm_lo (n := 6) (by omega) (by omega)), if_neg (nI_nneg (by omega)), if_neg (show ¬ (6 : Int32) < nI _ from pm_lo (n := 6) (by omega) (by omega)), qI_add, if_pos c3, if_neg (nI_nneg (by omega)), if_neg c4, C_isLine, q_bd, b2i_f i5, if_pos rfl]
  obtain ⟨l, hl, -, rfl⟩ := pm_kx i5
  have hp0 := hd.2.2.2.2.2.1 0
  have hp1 := hd.2.2.2.2.2.1 1
  have k0 : nI n0 ≤ 0 ↔ n0 = 0 := by rw [q0, nI_le_iff (by omega) (by omega)]; omega
  have k1 : nI n1 ≤ 0 ↔ n1 = 0 := by rw [q0, nI_le_iff (by omega) (by omega)]; omega
  have p0 : nI (qP d 0) = 0 ↔ qP d 0 = 0 := by rw [q0, nI_inj (by omega) (by omega)]
  have p1 : nI (qP d 1) = 0 ↔ qP d 1 = 0 := by rw [q0, nI_inj (by omega) (by omega)]
  have hCs : sC_constant (nI n0) (nI n1) (nI m) (nI l) M = (if q2i (qsnd d) = 0 then some ((-4611686018427387904 : Int64), M) else if nI n0 ≤ 0 then (if nI n1 ≤ 0 then pm_bd (sStates_constantOf (nI n0) (nI n1) (nI m) M) fun v10 M9 => pm_bd (sC_factorial (nI n0) M9) fun v12 M11 => pm_bd (sC_factorial (nI n1) M11) fun v14 M13 => pm_bd (sC_fraction v10 (v12 * v14) (nI l) M13) fun v16 M15 => some (v16, M15) else if ¬ nI (qP d 1) = 0 then pm_bd (sStates_constantOf (nI n0) (nI n1) (nI m) M) fun v10 M9 => pm_bd (sC_factorial (nI n0) M9) fun v12 M11 => pm_bd (sC_factorial (nI n1) M11) fun v14 M13 => pm_bd (sC_fraction v10 (v12 * v14) (nI l) M13) fun v16 M15 => some (v16, M15) else some ((-4611686018427387904 : Int64), M)) else if nI (qP d 0) = 0 then some ((-4611686018427387904 : Int64), M) else (if nI n1 ≤ 0 then pm_bd (sStates_constantOf (nI n0) (nI n1) (nI m) M) fun v10 M9 => pm_bd (sC_factorial (nI n0) M9) fun v12 M11 => pm_bd (sC_factorial (nI n1) M11) fun v14 M13 => pm_bd (sC_fraction v10 (v12 * v14) (nI l) M13) fun v16 M15 => some (v16, M15) else if ¬ nI (qP d 1) = 0 then pm_bd (sStates_constantOf (nI n0) (nI n1) (nI m) M) fun v10 M9 => pm_bd (sC_factorial (nI n0) M9) fun v12 M11 => pm_bd (sC_factorial (nI n1) M11) fun v14 M13 => pm_bd (sC_fraction v10 (v12 * v14) (nI l) M13) fun v16 M15 => some (v16, M15) else some ((-4611686018427387904 : Int64), M))) := by
    unfold sC_constant
    rw [if_neg (nI_nneg (by omega)), if_neg (show ¬ (6 : Int32) < nI _ from pm_lo (n := 6) (by omega) (by omega)), if_neg (nI_nneg (by omega)), if_neg (show ¬ (6 : Int32) < nI _ from pm_lo (n := 6) (by omega) (by omega)), qI_add, if_pos c3, if_neg (nI_nneg (by omega)), if_neg c4, C_isLine, q_bd, b2i_t i5, if_neg (by decide), Tours_isSound hT, q_bd]
    rw [q_jn]
    simp only [q_jn, hC.2.2.2.2.1]
    by_cases z : q2i (qsnd d) = 0
    · rw [if_neg (fun w => w z), if_pos z]
    · rw [if_pos z, if_neg z]
  have hRs : ∀ N, qNet N d → ∃ N', qfL [59, 60] N N' ∧ (qsnd d → qDm N' d) ∧ sR_constant (nI n0) (nI n1) (nI m) (nI l) N = (if q2i (qsnd d) = 0 then some ((-4611686018427387904 : Int64), N') else if nI n0 ≤ 0 then (if nI n1 ≤ 0 then pm_bv (sR_constants (nI m) (-1 : Int32) N') fun M15 => pm_bd (sR_whole (nI n0) (nI n1) M15) fun v17 M16 => pm_bd (sR_part v17 (M16.2 61 n0 * M16.2 61 n1) (nI l) M16) fun v19 M18 => some (v19, M18) else if ¬ nI (qP d 1) = 0 then pm_bv (sR_constants (nI m) (-1 : Int32) N') fun M15 => pm_bd (sR_whole (nI n0) (nI n1) M15) fun v17 M16 => pm_bd (sR_part v17 (M16.2 61 n0 * M16.2 61 n1) (nI l) M16) fun v19 M18 => some (v19, M18) else some ((-4611686018427387904 : Int64), N')) else if nI (qP d 0) = 0 then some ((-4611686018427387904 : Int64), N') else (if nI n1 ≤ 0 then pm_bv (sR_constants (nI m) (-1 : Int32) N') fun M15 => pm_bd (sR_whole (nI n0) (nI n1) M15) fun v17 M16 => pm_bd (sR_part v17 (M16.2 61 n0 * M16.2 61 n1) (nI l) M16) fun v19 M18 => some (v19, M18) else if ¬ nI (qP d 1) = 0 then pm_bv (sR_constants (nI m) (-1 : Int32) N') fun M15 => pm_bd (sR_whole (nI n0) (nI n1) M15) fun v17 M16 => pm_bd (sR_part v17 (M16.2 61 n0 * M16.2 61 n1) (nI l) M16) fun v19 M18 => some (v19, M18) else some ((-4611686018427387904 : Int64), N'))) := by
    intro N hN
    obtain ⟨N', e, f, q⟩ := R_snd hN
    refine ⟨N', f, q, ?_⟩
    have hr0' : ∀ x : Int32, sR_in x.toInt64 0 (N.1 49 1).toInt64 N = some (b2i (pm_in x (qS d + 1)), N) := fun x => by rw [hN.2.2.1.1, nI_toL (by omega)]; exact R_in0 (by omega) N
    have hRN' : qR N' d := qR_1 hN.2.2.1 f.1
    unfold sR_constant
    rw [R_in06, q_bd, b2i_t i1, if_neg (by decide), R_in06, q_bd, b2i_t i2, if_neg (by decide), qI_add, if_neg r3, hr0', q_bd, b2i_t i4, if_neg (by decide), R_in01, q_bd, b2i_t i5, if_neg (by decide), e, q_bd]
    have j1 : pm_in (nI n0) 9 := by rw [nI_in_iff (by omega)]; omega
    have j2 : pm_in (nI n1) 9 := by rw [nI_in_iff (by omega)]; omega
    have g1 : (nI n0).toNatClampNeg = n0 := nI_clamp (by omega)
    have g2 : (nI n1).toNatClampNeg = n1 := nI_clamp (by omega)
    simp only [q_jn, hRN'.2.2.2.2.1, eq_true j1, eq_true j2, g1, g2, if_true]
    by_cases z : q2i (qsnd d) = 0
    · rw [if_neg (fun w => w z), if_pos z]
    · rw [if_pos z, if_neg z]
  rw [show qPur (sC_constant (nI n0) (nI n1) (nI m) (nI l)) (sR_constant (nI n0) (nI n1) (nI m) (nI l)) M = ∃ v M1 M2, sC_constant (nI n0) (nI n1) (nI m) (nI l) M = some (v, M1) ∧ sR_constant (nI n0) (nI n1) (nI m) (nI l) M1 = some (v, M2) ∧ qScr M M2 from rfl, hCs]
  have hN : qNet M d := ⟨hd, hC, hR, hT, hSt, hF⟩
  by_cases hs : qsnd d
  case neg =>
    obtain ⟨N', f, -, e⟩ := hRs M hN
    rw [q2i_f hs, if_pos rfl] at e
    exact ⟨_, M, N', by rw [q2i_f hs, if_pos rfl], e, qScr_L f (by decide)⟩
  rw [q2i_t hs, if_neg (by decide)]
  by_cases b0 : n0 = 0 ∨ qP d 0 ≠ 0
  case neg =>
    have b0a : ¬ nI n0 ≤ 0 := fun q => b0 (Or.inl (k0.mp q))
    have b0b : nI (qP d 0) = 0 := by
      apply Classical.byContradiction
      intro q
      exact b0 (Or.inr (fun w => q (p0.mpr w)))
    obtain ⟨N', f, -, e⟩ := hRs M hN
    rw [q2i_t hs, if_neg (by decide), if_neg b0a, if_pos b0b] at e
    exact ⟨_, M, N', by rw [if_neg b0a, if_pos b0b], e, qScr_L f (by decide)⟩
  rw [ite_g (b0.elim (fun q => Or.inl (k0.mpr q)) (fun q => Or.inr (fun w => q (p0.mp w))))]
  by_cases b1 : n1 = 0 ∨ qP d 1 ≠ 0
  case neg =>
    have b1a : ¬ nI n1 ≤ 0 := fun q => b1 (Or.inl (k1.mp q))
    have b1b : nI (qP d 1) = 0 := by
      apply Classical.byContradiction
      intro q
      exact b1 (Or.inr (fun w => q (p1.mpr w)))
    obtain ⟨N', f, -, e⟩ := hRs M hN
    rw [q2i_t hs, if_neg (by decide), ite_g (b0.elim (fun q => Or.inl (k0.mpr q)) (fun q => Or.inr (fun w => q (p0.mp w)))), if_neg b1a, if_neg (fun w => w b1b)] at e
    exact ⟨_, M, N', by rw [if_neg b1a, if_neg (fun w => w b1b)], e, qScr_L f (by decide)⟩
  rw [ite_g' (b1.elim (fun q => Or.inl (k1.mpr q)) (fun q => Or.inr (fun w => q (p1.mp w))))]
  obtain ⟨M1, e1, f1, t1⟩ := States_constantOf hd hSt (n0 := n0) (n1 := n1) (m := m) (by omega) (by omega) i3 (by omega)
  have hN1 : qNet M1 d := qNet_scr hN (qScr_L f1 (by decide))
  obtain ⟨N', f, hdm, e⟩ := hRs M1 hN1
  have hfa' : qFa N' := fun k hk => by rw [f.2 61 (by decide)]; exact hN1.2.2.2.2.2 k hk
  obtain ⟨N2, e2, f2, t2⟩ := R_constants hd (qR_1 hN1.2.2.1 f.1) hfa' (hdm hs).1 qas_no (m := m) (by omega)
  have hb := qcn_8 (qK d) (qdd_20 hd hs) 9 (m := m) (x := n0) (y := n1) (by omega) (by omega) (by omega) i3
  have hb2 := bi_f2 n0 (by omega) n1 (by omega)
  have hfa2 : ∀ k, k ≤ 8 → N2.2 61 k = nL (qfa k) := fun k hk => by rw [f2.2 61 (by decide)]; exact hfa' k hk
  rw [q2i_t hs, if_neg (by decide), ite_g (b0.elim (fun q => Or.inl (k0.mpr q)) (fun q => Or.inr (fun w => q (p0.mp w)))), ite_g' (b1.elim (fun q => Or.inl (k1.mpr q)) (fun q => Or.inr (fun w => q (p1.mp w)))), e2, q_bv, R_whole t2 (by omega) (by omega) i3, q_bd, hfa2 n0 (by omega), hfa2 n1 (by omega), nL_mul, R_part (by omega) (by omega) hb2.1 hl, q_bd] at e
  refine ⟨_, M1, N2, ?_, e, qScr_tr (qScr_L f1 (by decide)) (qScr_tr (qScr_L f (by decide)) (qScr_L f2 (by decide)))⟩
  rw [e1, q_bd, C_factorial (by omega), q_bd, C_factorial (by omega), q_bd, nL_mul, C_fraction (by omega) (by omega) hb2.1 hl, q_bd]
