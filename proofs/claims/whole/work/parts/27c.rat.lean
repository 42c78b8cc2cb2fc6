/-! RATE: both sides -/
noncomputable def qtb (d : qD) : Nat → Nat → Nat := qcn (qdd d) (qK d) 9 (qS d)
theorem qtb_pos {d : qD} (hd : qOK d) (hs : qsnd d) {x y : Nat} (h0 : x = 0 ∨ qP d 0 ≠ 0) (h1 : y = 0 ∨ qP d 1 ≠ 0) : 0 < qtb d x y := by
  have hS := hd.1
  refine qcn_pos (qK d) 9 _ _ _ ?_ ?_
  · rcases h0 with q | q
    · exact Or.inl q
    · obtain ⟨s, s1, s2⟩ := qdd_pos hd hs (by omega) q
      exact Or.inr ⟨s, s1, by omega, s2⟩
  · rcases h1 with q | q
    · exact Or.inl q
    · obtain ⟨s, s1, s2⟩ := qdd_pos hd hs (by omega) q
      exact Or.inr ⟨s, s1, by omega, s2⟩
theorem qtb_all {d : qD} (hd : qOK d) (hs : qsnd d) : 0 < qtb d (qP d 0) (qP d 1) := qtb_pos hd hs (by omega) (by omega)
theorem qtb_8 {d : qD} (hd : qOK d) (hs : qsnd d) {x y : Nat} (hx : x ≤ 6) (hy : y ≤ 6) (h8 : x + y ≤ 8) : qtb d x y ≤ 510935040000000000 := qcn_8 (qK d) (qdd_20 hd hs) 9 hd.1 hx hy h8
theorem qtb_7 {d : qD} (hd : qOK d) (hs : qsnd d) : ∀ x y, x ≤ 6 → y ≤ 6 → x + y ≤ 7 → qtb d x y ≤ 2128896000000000 := fun x y hx hy h => qcn_7 (qK d) (qdd_20 hd hs) 9 hd.1 hx hy h
/-- the reference is ready: sound, with its demands and its table -/
def qRd (N : pm_M) (d : qD) : Prop := qR N d ∧ qFa N ∧ qDm N d ∧ qTR N (qtb d)
theorem R_ready {N : pm_M} {d : qD} (hd : qOK d) (hR : qR N d) (hF : qFa N) (hD : qDm N d) : ∃ N', sR_constants (nI (qS d)) (-1 : Int32) N = some N' ∧ qfL [62, 63] N N' ∧ qRd N' d := by
  obtain ⟨N', e, f, t⟩ := R_constants hd hR hF hD.1 qas_no (m := qS d) hd.1
  refine ⟨N', e, f, qR_1 hR f.1, fun k hk => by rw [f.2 61 (by decide)]; exact hF k hk, ⟨fun c s hc hs => by rw [f.2 60 (by decide)]; exact hD.1 c s hc hs, fun c s hc hs hp => by rw [f.2 59 (by decide)]; exact hD.2 c s hc hs hp⟩, t⟩
/-- as R_snd, and what is kept -/
theorem R_snd2 {M : pm_M} {d : qD} (h : qNet M d) : ∃ M', sR_isSound M = some (q2i (qsnd d), M') ∧ qfL [59, 60] M M' ∧ qR M' d ∧ qFa M' ∧ (qsnd d → qDm M' d) := by
  obtain ⟨M', e, f, q⟩ := R_snd h
  exact ⟨M', e, f, qR_1 h.2.2.1 f.1, fun k hk => by rw [f.2 61 (by decide)]; exact h.2.2.2.2.2 k hk, q⟩
theorem qfrc_0 {b l : Nat} (hb : 0 < b) : qfrc 0 b l = qfrc 0 1 l := by
  unfold qfrc
  rw [Nat.gcd_zero_left, Nat.gcd_zero_left]
  by_cases h : l = 0
  · rw [if_pos h, if_pos h, Nat.zero_div, Nat.zero_div]
  · rw [if_neg h, if_neg h, Nat.div_self hb]
theorem P_rate {M : pm_M} {d : qD} (h : qNet M d) (a1 a2 a3 : Int32) : qPur (sC_rate a1 a2 a3) (sR_rate a1 a2 a3) M := by
  obtain ⟨hd, hC, hR, hT, hSt, hF⟩ := id h
  have hS := hd.1
  by_cases i1 : pm_in a1 2
  case neg =>
    refine ⟨qNO, M, M, ?_, ?_, qScr_rf⟩
    · unfold sC_rate
      rw [C_isClass, q_bd, b2i_f i1, if_pos rfl]
      rfl
    · unfold sR_rate
      rw [R_isPart, q_bd, b2i_f i1, if_pos rfl]
      rfl
  by_cases i2 : pm_in a2 5
  case neg =>
    refine ⟨qNO, M, M, ?_, ?_, qScr_rf⟩
    · unfold sC_rate
      rw [C_isClass, q_bd, b2i_t i1, if_neg (by decide)]
      by_cases z : a2 < 0
      · rw [if_pos z]; rfl
      · rw [if_neg z, if_pos (show (4 : Int32) < _ from pm_hi (n := 4) (by omega) i2 z)]; rfl
    · unfold sR_rate
      rw [R_isPart, q_bd, b2i_t i1, if_neg (by decide), R_in04, q_bd, b2i_f i2, if_pos rfl]
      rfl
  obtain ⟨w, hw, -, rfl⟩ := pm_kx i2
  have g4 : ¬ (4 : Int32) < nI w := pm_lo (n := 4) (by omega) (by omega)
  by_cases i3 : pm_in a3 2
  case neg =>
    refine ⟨qNO, M, M, ?_, ?_, qScr_rf⟩
    · unfold sC_rate
      rw [C_isClass, q_bd, b2i_t i1, if_neg (by decide), if_neg (nI_nneg (by omega)), if_neg g4, C_isLine, q_bd, b2i_f i3, if_pos rfl]
      rfl
    · unfold sR_rate
      rw [R_isPart, q_bd, b2i_t i1, if_neg (by decide), R_in04, q_bd, b2i_t i2, if_neg (by decide), R_in01, q_bd, b2i_f i3, if_pos rfl]
      rfl
  obtain ⟨c, hc, -, rfl⟩ := pm_kx i1
  obtain ⟨l, hl, -, rfl⟩ := pm_kx i3
  by_cases hs : qsnd d
  case neg =>
    obtain ⟨N, e, f, -, -, -⟩ := R_snd2 h
    refine ⟨qNO, M, N, ?_, ?_, qScr_L f (by decide)⟩
    · unfold sC_rate
      rw [C_isClass, q_bd, b2i_t i1, if_neg (by decide), if_neg (nI_nneg (by omega)), if_neg g4, C_isLine, q_bd, b2i_t i3, if_neg (by decide), Tours_isSound hT, q_bd, q2i_f hs, if_neg (fun q => q rfl)]
      rfl
    · unfold sR_rate
      rw [R_isPart, q_bd, b2i_t i1, if_neg (by decide), R_in04, q_bd, b2i_t i2, if_neg (by decide), R_in01, q_bd, b2i_t i3, if_neg (by decide), e, q_bd, q2i_f hs, if_neg (fun q => q rfl)]
      rfl
  have hp0 := hd.2.2.2.2.2.1 0
  have hp1 := hd.2.2.2.2.2.1 1
  have hpc := hd.2.2.2.2.2.1 c
  have hpo := hd.2.2.2.2.2.1 (1 - c)
  have hp8 : qP d c + qP d (1 - c) ≤ 8 := by
    have := hd.2.2.2.2.2.2.1
    rcases (show c = 0 ∨ c = 1 by omega) with rfl | rfl
    · exact this
    · show qP d 1 + qP d 0 ≤ 8; omega
  have hin1 : pm_in (nI (1 - c)) 2 := by rw [nI_in_iff (by omega)]; omega
  have hck : (nI c).toNatClampNeg = c := nI_clamp (by omega)
  have hck1 : (nI (1 - c)).toNatClampNeg = 1 - c := nI_clamp (by omega)
  have e1c : (1 : Int32) - nI c = nI (1 - c) := by rw [q1, nI_sub (by omega)]
  have pz : nI (qP d c) = 0 ↔ qP d c = 0 := by rw [q0, nI_inj (by omega) (by omega)]
  -- the class, behind its guards
  have hCb : sC_rate (nI c) (nI w) (nI l) M = (if ¬ nI (qP d c) = 0 then (if nI w = Int32.ofNat 0 then (pm_bd (sC_rateOf (nI c) (nI (qP d c)) (nI (qP d (1 - c))) (nI l) M) fun v10 M9 => some (v10, M9)) else if nI w = Int32.ofNat 1 then (pm_bd (sC_rateOf (nI c) (nI (qP d c)) (0 : Int32) (nI l) M) fun v12 M11 => some (v12, M11)) else if nI w = Int32.ofNat 2 then (if (6 : Int32) ≤ nI (qP d c) then (some ((-4611686018427387904 : Int64), M)) else (if (nI (qP d c) + nI (qP d (1 - c))) < (8 : Int32) then (pm_bd (sC_rateOf (nI c) (nI (qP d c) + (1 : Int32)) (nI (qP d (1 - c))) (nI l) M) fun v14 M13 => some (v14, M13)) else (some ((-4611686018427387904 : Int64), M)))) else if nI w = Int32.ofNat 3 then (pm_bd (sC_limitAbove (nI c) (nI l) M) fun v16 M15 => some (v16, M15)) else (pm_bd (sC_limitBelow (nI c) (nI l) M) fun v18 M17 => some (v18, M17))) else (if (2 : Int32) ≤ nI w then (some ((-4611686018427387904 : Int64), M)) else (pm_bd (sC_fraction (0 : Int64) (1 : Int64) (nI l) M) fun v20 M19 => some (v20, M19)))) := by
    unfold sC_rate
    rw [C_isClass, q_bd, b2i_t i1, if_neg (by decide), if_neg (nI_nneg (by omega)), if_neg g4, C_isLine, q_bd, b2i_t i3, if_neg (by decide), Tours_isSound hT, q_bd, q2i_t hs, if_pos (by decide)]
    simp only [e1c, eq_true i1, eq_true hin1, hck, hck1, if_true, q_lt, hC.2.2.2.2.1]
  -- the reference, behind its guards
  have hRb : ∀ L, qNet L d → ∃ N, qfL [59, 60] L N ∧ qR N d ∧ qFa N ∧ qDm N d ∧ (nI w ≤ (1 : Int32) ∨ qP d c ≠ 0 → (¬ nI w = (2 : Int32) ∨ (¬ nI (qP d c) = (6 : Int32) ∧ ¬ nI (qP d 0) + nI (qP d 1) = (8 : Int32))) → nI w ≤ (2 : Int32) → ∃ N', qfL [62, 63] N N' ∧ qRd N' d ∧ sR_rate (nI c) (nI w) (nI l) L = (pm_jn (fun (x19 : Int32) (M18 : pm_M) => pm_jn (fun (x22 : Int32) (M21 : pm_M) => pm_jn (fun (x25 : Int32) (M24 : pm_M) => pm_jn (fun (x28 : Int32) (M27 : pm_M) => pm_bd (sR_rateAbove (nI c) x25 x28 M27) fun v30 M29 => pm_bd (sR_whole x25 x28 M29) fun v32 M31 => pm_bd (sR_part v30 v32 (nI l) M31) fun v34 M33 => some (v34, M33)) fun (j26 : Int32 → pm_M → Option (Int64 × pm_M)) => if ¬ nI w = (2 : Int32) then (j26 x19 M24) else (if ¬ nI c = (1 : Int32) then (j26 x19 M24) else (pm_lt ((x19 + (1 : Int32))) fun x35 => j26 x35 M24))) fun (j23 : Int32 → pm_M → Option (Int64 × pm_M)) => if ¬ nI w = (2 : Int32) then (j23 x22 M21) else (if ¬ nI c = 0 then (j23 x22 M21) else (pm_lt ((x22 + (1 : Int32))) fun x36 => j23 x36 M21))) fun (j20 : Int32 → pm_M → Option (Int64 × pm_M)) => if ¬ nI w = (1 : Int32) then (j20 (nI (qP d 0)) M18) else (if ¬ nI c = (1 : Int32) then (j20 (nI (qP d 0)) M18) else (j20 (0 : Int32) M18))) fun (j17 : Int32 → pm_M → Option (Int64 × pm_M)) => if ¬ nI w = (1 : Int32) then (j17 (nI (qP d 1)) N') else (if ¬ nI c = 0 then (j17 (nI (qP d 1)) N') else (j17 (0 : Int32) N')))) ∧ (nI w ≤ (1 : Int32) ∨ qP d c ≠ 0 → ¬ nI w = (2 : Int32) → ¬ nI w ≤ (2 : Int32) → sR_rate (nI c) (nI w) (nI l) L = pm_bd (sR_limit (nI c) (nI w) (nI l) N) fun v38 M37 => some (v38, M37)) ∧ ((¬ nI w ≤ (1 : Int32) ∧ qP d c = 0) ∨ (nI w = (2 : Int32) ∧ (nI (qP d c) = (6 : Int32) ∨ nI (qP d 0) + nI (qP d 1) = (8 : Int32))) → sR_rate (nI c) (nI w) (nI l) L = some (qNO, N)) := by
    intro L hL
    obtain ⟨N, e, f, r1, r2, r3⟩ := R_snd2 hL
    have r3 := r3 hs
    refine ⟨N, f, r1, r2, r3, ?_, ?_, ?_⟩
    · intro g1 g2 g3
      obtain ⟨N', e', f', t'⟩ := R_ready hd r1 r2 r3
      refine ⟨N', f', t', ?_⟩
      unfold sR_rate
      rw [R_isPart, q_bd, b2i_t i1, if_neg (by decide), R_in04, q_bd, b2i_t i2, if_neg (by decide), R_in01, q_bd, b2i_t i3, if_neg (by decide), e, q_bd, q2i_t hs, if_pos (by decide), if_pos i1, hck, r1.2.2.2.2.1, q_lt, q_jn]
      have k1 : nI w ≤ (1 : Int32) ∨ ¬ nI (qP d c) = 0 := g1.elim Or.inl (fun q => Or.inr (fun u => q (pz.mp u)))
      rw [ite_g k1]
      dsimp only
      rw [q_jn]
      by_cases z : nI w = (2 : Int32)
      · rcases g2 with q | ⟨q1, q2⟩
        · exact absurd z q
        · rw [if_neg (fun u => u z), if_neg q1, r1.2.2.2.2.1, r1.2.2.2.2.1, if_pos q2]
          dsimp only
          rw [if_pos g3, r1.1, e', q_bv, t'.1.2.2.2.2.1, t'.1.2.2.2.2.1, q_lt, q_lt]
      · rw [if_pos z]
        dsimp only
        rw [if_pos g3, r1.1, e', q_bv, t'.1.2.2.2.2.1, t'.1.2.2.2.2.1, q_lt, q_lt]
    · intro g1 g2 g3
      unfold sR_rate
      rw [R_isPart, q_bd, b2i_t i1, if_neg (by decide), R_in04, q_bd, b2i_t i2, if_neg (by decide), R_in01, q_bd, b2i_t i3, if_neg (by decide), e, q_bd, q2i_t hs, if_pos (by decide), if_pos i1, hck, r1.2.2.2.2.1, q_lt, q_jn]
      have k1 : nI w ≤ (1 : Int32) ∨ ¬ nI (qP d c) = 0 := g1.elim Or.inl (fun q => Or.inr (fun u => q (pz.mp u)))
      rw [ite_g k1]
      dsimp only
      rw [q_jn, if_pos g2]
      dsimp only
      rw [if_neg g3]
    · rintro (⟨g1, g2⟩ | ⟨g1, g2⟩)
      · unfold sR_rate
        rw [R_isPart, q_bd, b2i_t i1, if_neg (by decide), R_in04, q_bd, b2i_t i2, if_neg (by decide), R_in01, q_bd, b2i_t i3, if_neg (by decide), e, q_bd, q2i_t hs, if_pos (by decide), if_pos i1, hck, r1.2.2.2.2.1, q_lt, q_jn]
        rw [if_neg g1, if_pos (pz.mpr g2)]
        rfl
      · have hn1 : ¬ nI w ≤ (1 : Int32) := by rw [g1]; decide
        unfold sR_rate
        rw [R_isPart, q_bd, b2i_t i1, if_neg (by decide), R_in04, q_bd, b2i_t i2, if_neg (by decide), R_in01, q_bd, b2i_t i3, if_neg (by decide), e, q_bd, q2i_t hs, if_pos (by decide), if_pos i1, hck, r1.2.2.2.2.1, q_lt, q_jn]
        rw [if_neg hn1]
        by_cases z : nI (qP d c) = 0
        · rw [if_pos z]; rfl
        · rw [if_neg z]
          dsimp only
          rw [q_jn, if_neg (fun u => u g1)]
          by_cases y : nI (qP d c) = (6 : Int32)
          · rw [if_pos y]; rfl
          · rw [if_neg y, r1.2.2.2.2.1, r1.2.2.2.2.1, if_neg (fun u => u (g2.resolve_left y))]
            rfl
  have tail : ∀ N', qRd N' d → ∀ n0 n1, n0 ≤ 6 → n1 ≤ 6 → n0 + n1 ≤ 8 → 0 < qtb d n0 n1 → (pm_bd (sR_rateAbove (nI c) (nI n0) (nI n1) N') fun v30 M29 => pm_bd (sR_whole (nI n0) (nI n1) M29) fun v32 M31 => pm_bd (sR_part v30 v32 (nI l) M31) fun v34 M33 => some (v34, M33)) = some (nL (qfrc (qra (qtb d) c n0 n1) (qtb d n0 n1) l), N') := by
    rintro N' ⟨-, -, -, t⟩ n0 n1 h0 h1 h8 hp
    have b1 := qra_le (qtb_7 hd hs) c h0 h1 h8
    have b2 := qtb_8 hd hs h0 h1 h8
    rw [R_rateAbove t hc h0 h1 h8, q_bd, R_whole t h0 h1 h8, q_bd, R_part (by omega) (by omega) hp hl, q_bd]
  by_cases hz : qP d c = 0
  · -- nobody there
    rw [if_neg (fun u => u (pz.mpr hz))] at hCb
    by_cases w2 : 2 ≤ w
    · have hw2 : (2 : Int32) ≤ nI w := by rw [q2, nI_le_iff (by omega) (by omega)]; exact w2
      obtain ⟨N, f, -, -, -, -, -, k⟩ := hRb M h
      refine ⟨qNO, M, N, by rw [hCb, if_pos hw2]; rfl, k (Or.inl ⟨?_, hz⟩), qScr_L f (by decide)⟩
      rw [q1, nI_le_iff (by omega) (by omega)]
      omega
    · have hw2 : ¬ (2 : Int32) ≤ nI w := by rw [q2, nI_le_iff (by omega) (by omega)]; exact w2
      have hn2 : ¬ nI w = (2 : Int32) := by rw [q2, nI_inj (by omega) (by omega)]; omega
      obtain ⟨N, f, r1, r2, r3, k, -, -⟩ := hRb M h
      obtain ⟨N', f', t', e'⟩ := k (Or.inl (by rw [q1, nI_le_iff (by omega) (by omega)]; omega)) (Or.inl hn2) (by rw [q2, nI_le_iff (by omega) (by omega)]; omega)
      refine ⟨nL (qfrc 0 1 l), M, N', ?_, ?_, qScr_tr (qScr_L f (by decide)) (qScr_L f' (by decide))⟩
      · rw [hCb, if_neg hw2, show (0 : Int64) = nL 0 from rfl, show (1 : Int64) = nL 1 from rfl, C_fraction (by omega) (by omega) (by omega) hl, q_bd]
      · rw [e']
        simp only [q_jn, q_lt]
        rw [if_pos hn2, if_pos hn2]
        have hfin : ∀ n0 n1, n0 ≤ 6 → n1 ≤ 6 → n0 + n1 ≤ 8 → 0 < qtb d n0 n1 → (if c = 0 then n0 else n1) = 0 → some (nL (qfrc (qra (qtb d) c n0 n1) (qtb d n0 n1) l), N') = some (nL (qfrc 0 1 l), N') := by
          intro n0 n1 h0 h1 h8 hp hz0
          have : qra (qtb d) c n0 n1 = 0 := by
            unfold qra
            by_cases y : c = 0
            · rw [if_pos y] at hz0 ⊢; rw [hz0, Nat.zero_mul]
            · rw [if_neg y] at hz0 ⊢; rw [hz0, Nat.zero_mul]
          rw [this, qfrc_0 hp]
        have h88 := hd.2.2.2.2.2.2.1
        rcases (show w = 0 ∨ w = 1 by omega) with rfl | rfl <;> rcases (show c = 0 ∨ c = 1 by omega) with rfl | rfl
        · exact (tail N' t' _ _ hp0 hp1 h88 (qtb_all hd hs)).trans (hfin _ _ hp0 hp1 h88 (qtb_all hd hs) hz)
        · exact (tail N' t' _ _ hp0 hp1 h88 (qtb_all hd hs)).trans (hfin _ _ hp0 hp1 h88 (qtb_all hd hs) hz)
        · have hb : 0 < qtb d (qP d 0) 0 := qtb_pos hd hs (by omega) (Or.inl rfl)
          exact (tail N' t' _ 0 hp0 (by omega) (by omega) hb).trans (hfin _ 0 hp0 (by omega) (by omega) hb hz)
        · have hb : 0 < qtb d 0 (qP d 1) := qtb_pos hd hs (Or.inl rfl) (by omega)
          exact (tail N' t' 0 _ (by omega) hp1 (by omega) hb).trans (hfin 0 _ (by omega) hp1 (by omega) hb hz)
  · rw [if_pos (fun u => hz (pz.mp u))] at hCb
    have hsc : ∀ {M1 : pm_M}, qfL [26, 27] M M1 → qNet M1 d := fun f => qNet_scr h (qScr_L f (by decide))
    have h88 := hd.2.2.2.2.2.2.1
    -- the general end for w < 3
    have fin3 : ∀ own other n0 n1, sC_rate (nI c) (nI w) (nI l) M = (pm_bd (sC_rateOf (nI c) (nI own) (nI other) (nI l) M) fun v10 M9 => some (v10, M9)) → (n0 = if c = 0 then own else other) → (n1 = if c = 0 then other else own) → n0 ≤ 6 → n1 ≤ 6 → n0 + n1 ≤ 8 → (n0 = 0 ∨ qP d 0 ≠ 0) → (n1 = 0 ∨ qP d 1 ≠ 0) → (¬ nI w = (2 : Int32) ∨ (¬ nI (qP d c) = (6 : Int32) ∧ ¬ nI (qP d 0) + nI (qP d 1) = (8 : Int32))) → nI w ≤ (2 : Int32) → (∀ N', qRd N' d → (pm_jn (fun (x19 : Int32) (M18 : pm_M) => pm_jn (fun (x22 : Int32) (M21 : pm_M) => pm_jn (fun (x25 : Int32) (M24 : pm_M) => pm_jn (fun (x28 : Int32) (M27 : pm_M) => pm_bd (sR_rateAbove (nI c) x25 x28 M27) fun v30 M29 => pm_bd (sR_whole x25 x28 M29) fun v32 M31 => pm_bd (sR_part v30 v32 (nI l) M31) fun v34 M33 => some (v34, M33)) fun (j26 : Int32 → pm_M → Option (Int64 × pm_M)) => if ¬ nI w = (2 : Int32) then (j26 x19 M24) else (if ¬ nI c = (1 : Int32) then (j26 x19 M24) else (pm_lt ((x19 + (1 : Int32))) fun x35 => j26 x35 M24))) fun (j23 : Int32 → pm_M → Option (Int64 × pm_M)) => if ¬ nI w = (2 : Int32) then (j23 x22 M21) else (if ¬ nI c = 0 then (j23 x22 M21) else (pm_lt ((x22 + (1 : Int32))) fun x36 => j23 x36 M21))) fun (j20 : Int32 → pm_M → Option (Int64 × pm_M)) => if ¬ nI w = (1 : Int32) then (j20 (nI (qP d 0)) M18) else (if ¬ nI c = (1 : Int32) then (j20 (nI (qP d 0)) M18) else (j20 (0 : Int32) M18))) fun (j17 : Int32 → pm_M → Option (Int64 × pm_M)) => if ¬ nI w = (1 : Int32) then (j17 (nI (qP d 1)) N') else (if ¬ nI c = 0 then (j17 (nI (qP d 1)) N') else (j17 (0 : Int32) N'))) = (pm_bd (sR_rateAbove (nI c) (nI n0) (nI n1) N') fun v30 M29 => pm_bd (sR_whole (nI n0) (nI n1) M29) fun v32 M31 => pm_bd (sR_part v30 v32 (nI l) M31) fun v34 M33 => some (v34, M33))) → qPur (sC_rate (nI c) (nI w) (nI l)) (sR_rate (nI c) (nI w) (nI l)) M := by
      intro own other n0 n1 eC e0 e1 h0 h1 h8 p0 p1 g2 g3 eR
      have hpos := qtb_pos hd hs p0 p1
      obtain ⟨M1, eM, fM⟩ := C_rateOf hd hC hSt hs hc e0 e1 h0 h1 h8 hpos hl
      obtain ⟨N, f, r1, r2, r3, k, -, -⟩ := hRb M1 (hsc fM)
      obtain ⟨N', f', t', e'⟩ := k (Or.inr hz) g2 g3
      exact ⟨_, M1, N', by rw [eC, eM, q_bd], by rw [e', eR N' t', tail N' t' n0 n1 h0 h1 h8 hpos]; rfl, qScr_tr (qScr_L fM (by decide)) (qScr_tr (qScr_L f (by decide)) (qScr_L f' (by decide)))⟩
    rcases (show w = 0 ∨ w = 1 ∨ w = 2 ∨ w = 3 ∨ w = 4 by omega) with rfl | rfl | rfl | rfl | rfl
    · refine fin3 (qP d c) (qP d (1 - c)) (qP d 0) (qP d 1) hCb ?_ ?_ hp0 hp1 h88 (by omega) (by omega) (Or.inl (by decide)) (by decide) ?_
      · rcases (show c = 0 ∨ c = 1 by omega) with rfl | rfl <;> rfl
      · rcases (show c = 0 ∨ c = 1 by omega) with rfl | rfl <;> rfl
      · intro N' t'
        rcases (show c = 0 ∨ c = 1 by omega) with rfl | rfl <;> rfl
    · rcases (show c = 0 ∨ c = 1 by omega) with rfl | rfl
      · exact fin3 (qP d 0) 0 (qP d 0) 0 hCb rfl rfl hp0 (by omega) (by omega) (Or.inr hz) (Or.inl rfl) (Or.inl (by decide)) (by decide) (fun N' t' => rfl)
      · exact fin3 (qP d 1) 0 0 (qP d 1) hCb rfl rfl (by omega) hp1 (by omega) (Or.inl rfl) (Or.inr hz) (Or.inl (by decide)) (by decide) (fun N' t' => rfl)
    · have hCb' : sC_rate (nI c) (nI 2) (nI l) M = (if (6 : Int32) ≤ nI (qP d c) then (some ((-4611686018427387904 : Int64), M)) else (if (nI (qP d c) + nI (qP d (1 - c))) < (8 : Int32) then (pm_bd (sC_rateOf (nI c) (nI (qP d c) + (1 : Int32)) (nI (qP d (1 - c))) (nI l) M) fun v14 M13 => some (v14, M13)) else (some ((-4611686018427387904 : Int64), M)))) := hCb
      have hsum : nI (qP d 0) + nI (qP d 1) = (8 : Int32) ↔ qP d c + qP d (1 - c) = 8 := by
        rw [qI_add, show (8 : Int32) = nI 8 from rfl, nI_inj (by omega) (by omega)]
        rcases (show c = 0 ∨ c = 1 by omega) with rfl | rfl
        · exact Iff.rfl
        · show _ ↔ qP d 1 + qP d 0 = 8; omega
      have h6 : nI (qP d c) = (6 : Int32) ↔ qP d c = 6 := by rw [q6, nI_inj (by omega) (by omega)]
      by_cases y : qP d c = 6 ∨ qP d c + qP d (1 - c) = 8
      · obtain ⟨N, f, -, -, -, -, -, k⟩ := hRb M h
        refine ⟨qNO, M, N, ?_, k (Or.inr ⟨rfl, y.elim (fun q => Or.inl (h6.mpr q)) (fun q => Or.inr (hsum.mpr q))⟩), qScr_L f (by decide)⟩
        rw [hCb']
        by_cases y6 : qP d c = 6
        · rw [if_pos (by rw [q6, nI_le_iff (by omega) (by omega)]; omega)]; rfl
        · rw [if_neg (by rw [q6, nI_le_iff (by omega) (by omega)]; omega), qI_add, if_neg (by rw [show (8 : Int32) = nI 8 from rfl, nI_lt_iff (by omega) (by omega)]; omega)]; rfl
      · rw [if_neg (by rw [q6, nI_le_iff (by omega) (by omega)]; omega), qI_add, if_pos (by rw [show (8 : Int32) = nI 8 from rfl, nI_lt_iff (by omega) (by omega)]; omega), ← nI_succ] at hCb'
        have g2 : ¬ nI 2 = (2 : Int32) ∨ (¬ nI (qP d c) = (6 : Int32) ∧ ¬ nI (qP d 0) + nI (qP d 1) = (8 : Int32)) := Or.inr ⟨fun q => y (Or.inl (h6.mp q)), fun q => y (Or.inr (hsum.mp q))⟩
        rcases (show c = 0 ∨ c = 1 by omega) with rfl | rfl
        · have y' : ¬ (qP d 0 = 6 ∨ qP d 0 + qP d 1 = 8) := y
          refine fin3 (qP d 0 + 1) (qP d 1) (qP d 0 + 1) (qP d 1) hCb' rfl rfl (by omega) hp1 (by omega) (Or.inr hz) (by omega) g2 (by decide) (fun N' t' => ?_)
          rw [nI_succ (qP d 0)]
          rfl
        · have y' : ¬ (qP d 1 = 6 ∨ qP d 1 + qP d 0 = 8) := y
          refine fin3 (qP d 1 + 1) (qP d 0) (qP d 0) (qP d 1 + 1) hCb' rfl rfl hp0 (by omega) (by omega) (by omega) (Or.inr hz) g2 (by decide) (fun N' t' => ?_)
          rw [nI_succ (qP d 1)]
          rfl
    · obtain ⟨N, f, r1, r2, r3, -, k, -⟩ := hRb M h
      refine ⟨nL (qlm (qdd d) (qK d) c (qP d c) (qS d) 3 l), M, N, ?_, (k (Or.inr hz) (by decide) (by decide)).trans ?_, qScr_L f (by decide)⟩
      · exact hCb.trans (by rw [if_neg (by decide), if_neg (by decide), if_neg (by decide), if_pos (by decide), (C_limit hd hC hT hs hc hz hl).1, q_bd])
      · rw [R_limit hd r1 r3 hs hc hz hl (Or.inl rfl), q_bd]
    · obtain ⟨N, f, r1, r2, r3, -, k, -⟩ := hRb M h
      refine ⟨nL (qlm (qdd d) (qK d) c (qP d c) (qS d) 4 l), M, N, ?_, (k (Or.inr hz) (by decide) (by decide)).trans ?_, qScr_L f (by decide)⟩
      · exact hCb.trans (by rw [if_neg (by decide), if_neg (by decide), if_neg (by decide), if_neg (by decide), (C_limit hd hC hT hs hc hz hl).2, q_bd])
      · rw [R_limit hd r1 r3 hs hc hz hl (Or.inr rfl), q_bd]
