/-! CONSTANTS: both sides' tables -/
def qfl (F : Nat → Int64) (v : Int64) (n : Nat) : Nat → Int64 := fun k => if k < n then v else F k
theorem qfl_0 (F : Nat → Int64) (v : Int64) : qfl F v 0 = F := by
  funext k
  unfold qfl
  rw [if_neg (by omega)]
theorem qfl_set (F : Nat → Int64) (v : Int64) (n : Nat) : vp_updL (qfl F v n) n v = qfl F v (n + 1) := by
  funext k
  unfold vp_updL qfl
  by_cases h : k = n
  · rw [if_pos h, if_pos (by omega)]
  · rw [if_neg h]
    by_cases h2 : k < n
    · rw [if_pos h2, if_pos (by omega)]
    · rw [if_neg h2, if_neg (by omega)]
theorem qfl_at (F : Nat → Int64) (v : Int64) {n k : Nat} (h : k < n) : qfl F v n k = v := if_pos h
theorem q49 : (49 : Int32) = nI 49 := rfl
theorem fillL_26 (v : Int64) (M : pm_M) : sJArr_fillL_26 v M = some (mu_L M 26 (qfl (M.2 26) v 49)) := by
  unfold sJArr_fillL_26
  generalize hF : M.2 26 = F
  rw [show M = mu_L M 26 (qfl F v 0) by rw [qfl_0, ← hF]; exact (uL_self M 26).symm]
  refine q_for (fun i (g : Int32 → pm_M → Option pm_M) => g (nI i) (mu_L M 26 (qfl F v i))) (N := 49) ?_ ?_ (by omega)
  · intro i hi g
    rw [if_neg (by rw [q49, nI_le_iff (by omega) (by omega)]; omega), if_pos (by rw [nI_in_iff (by omega)]; exact hi), q_lt, q_lt, nI_clamp (by omega), sL_u, uL_a, uL_uL, qfl_set, ← nI_succ]
  · intro g
    rw [if_pos (by decide), uL_uL]
/-- the class's table: constants of the first m stations, one aside -/
def qTC (N : pm_M) (D : Nat → Nat → Nat) (K : Nat → Nat) (z m n0 n1 : Nat) : Prop := ∀ x y, x ≤ n0 → y ≤ n1 → N.2 26 (7 * x + y) = nL (qcn D K z m x y)
/-- which station stands aside -/
def qas (zI : Int32) (z : Nat) : Prop := ∀ i, i < 5 → (nI i = zI ↔ i = z)
theorem qas_no : qas (-1) 9 := fun i hi => ⟨fun h => absurd h (nI_m1 (by omega)), fun h => by omega⟩
theorem qas_at {s : Nat} (hs : s < 5) : qas (nI s) s := fun i hi => nI_inj (by omega) (by omega)
theorem States_fillConstants {d : qD} {M : pm_M} (hd : qOK d) {D : Nat → Nat → Nat} (h : qSt M d D) {n0 n1 m z : Nat} {zI : Int32} (hz : qas zI z) (h0 : n0 ≤ 6) (h1 : n1 ≤ 6) (h8 : n0 + n1 ≤ 8) (hm : m ≤ qS d) : ∃ M', sStates_fillConstants (nI n0) (nI n1) (nI m) zI M = some M' ∧ qfL [26, 27] M M' ∧ qTC M' D (qK d) z m n0 n1 := by
  have hS := hd.1
  unfold sStates_fillConstants
  rw [fillL_26, q_bv, q_lt]
  refine q_fz (fun o => ∃ M', o = some M' ∧ qfL [26, 27] M M' ∧ qTC M' D (qK d) z m n0 n1) (fun i N (g : Int32 → pm_M → Option pm_M) => g (nI i) N) (fun i N => qfL [26, 27] M N ∧ qTC N D (qK d) z i n0 n1) m ?_ ?_ (by omega) ⟨qfL_tr (qfL_u (by decide)) (qfL_s (by decide)), fun x y hx hy => ?_⟩
  · rintro i N hi ⟨f, t⟩ g
    rw [if_neg (by rw [nI_le_iff (by omega) (by omega)]; omega)]
    by_cases q : i = z
    · rw [if_neg (fun w => w ((hz i (by omega)).mpr q)), q_lt, ← nI_succ]
      refine ⟨N, ⟨f, fun x y hx hy => ?_⟩, rfl⟩
      rw [t x y hx hy]
      show _ = nL ((if i = z then qcn D (qK d) z i x y else qgw D (qK d) (qcn D (qK d) z i) i x y))
      rw [if_pos q]
    · obtain ⟨M6, e1, f1, t1⟩ := States_fillFactors hd (qSt_L h f (by decide)) (s := i) (by omega) h0 h1 h8
      obtain ⟨M7, e2, f2, t2⟩ := States_addStation (D := D) (K := qK d) (T := qcn D (qK d) z i) (s := i) h0 h1 t1 (fun x y hx hy => by rw [f1.2 26 (by decide)]; exact t x y hx hy)
      rw [if_pos (fun w => q ((hz i (by omega)).mp w)), e1, q_bv, e2, q_bv, q_lt, ← nI_succ]
      refine ⟨M7, ⟨qfL_tr f (qfL_tr (qfL_sub f1 (by decide)) (qfL_sub f2 (by decide))), fun x y hx hy => ?_⟩, rfl⟩
      rw [t2 x y hx hy]
      show _ = nL ((if i = z then qcn D (qK d) z i x y else qgw D (qK d) (qcn D (qK d) z i) i x y))
      rw [if_neg q]
  · rintro N ⟨f, t⟩ g
    rw [if_pos (Int32.le_refl _)]
    exact ⟨N, rfl, f, t⟩
  · show _ = nL (if x = 0 ∧ y = 0 then 1 else 0)
    by_cases q : x = 0 ∧ y = 0
    · rw [if_pos q, q.1, q.2]
      exact sL_at _ _ _ _
    · rw [if_neg q, sL_ne _ _ _ _ _ (by omega), uL_a, qfl_at _ _ (by omega)]
      rfl
/-- the reference's table -/
def qTR (N : pm_M) (T : Nat → Nat → Nat) : Prop := ∀ p q, p ≤ 6 → q ≤ 6 → p + q ≤ 8 → N.2 62 (7 * p + q) = nL (T p q)
theorem R_grows {d : qD} {M : pm_M} (hd : qOK d) (h : qR M d) (hf : qFa M) {D : Nat → Nat → Nat} {s p q : Nat} (hs : s < 5) (hD : ∀ c, c < 2 → M.2 60 (5 * c + s) = nL (D c s)) (hp : p ≤ 6) (hq : q ≤ 6) (h8 : p + q ≤ 8) {T : Nat → Nat → Nat} (hT : qTR M T) : sR_grows (nI s) (nI p) (nI q) M = some (nL (qgw D (qK d) T s p q), M) := by
  unfold sR_grows
  refine q_for (fun a (g : Int64 → Int32 → pm_M → Option (Int64 × pm_M)) => g (nL (qsm (fun a => qsm (fun b => qws2 D (qK d) T s p q a b) (q + 1)) a)) (nI a) M) (N := p + 1) ?_ ?_ (by omega)
  · intro a ha g8
    rw [if_neg (by rw [nI_lt_iff (by omega) (by omega)]; omega)]
    rw [show qsm (fun a => qsm (fun b => qws2 D (qK d) T s p q a b) (q + 1)) (a + 1) = qsm (fun a => qsm (fun b => qws2 D (qK d) T s p q a b) (q + 1)) a + qsm (fun b => qws2 D (qK d) T s p q a b) (q + 1) from rfl]
    generalize qsm (fun a => qsm (fun b => qws2 D (qK d) T s p q a b) (q + 1)) a = S0
    rw [show nL S0 = nL (S0 + qsm (fun b => qws2 D (qK d) T s p q a b) 0) from rfl]
    refine q_for (fun b (g : Int64 → Int32 → pm_M → Option (Int64 × pm_M)) => g (nL (S0 + qsm (fun b => qws2 D (qK d) T s p q a b) b)) (nI b) M) (N := q + 1) ?_ ?_ (by omega)
    · intro b hb g14
      have e : (7 : Int32) * (nI p - nI a) + nI q - nI b = nI (7 * (p - a) + (q - b)) := by
        rw [nI_sub (by omega), q7s', nI_sub (by omega)]
        congr 1
        omega
      have h1 : pm_in (nI (7 * (p - a) + (q - b))) 49 := by rw [nI_in_iff (by omega)]; omega
      have c1 : (nI (7 * (p - a) + (q - b))).toNatClampNeg = 7 * (p - a) + (q - b) := nI_clamp (by omega)
      have hn : S0 + qsm (fun b => qws2 D (qK d) T s p q a b) (b + 1) = S0 + qsm (fun b => qws2 D (qK d) T s p q a b) b + qws2 D (qK d) T s p q a b := (Nat.add_assoc _ _ _).symm
      rw [if_neg (by rw [nI_lt_iff (by omega) (by omega)]; omega), e, if_pos h1, c1, hT _ _ (by omega) (by omega) (by omega), q_lt, hn]
      by_cases z : nL (T (p - a) (q - b)) = 0
      · have zw : nL (qws2 D (qK d) T s p q a b) = 0 := nL_mul0 z
        rw [if_pos ((cmp_eq _ _).mpr z), q_lt, ← nI_succ, ← nL_add _ (qws2 D (qK d) T s p q a b), zw, Int64.add_zero]
      · rw [if_neg (fun w => z ((cmp_eq _ _).mp w)), R_choose hf (by omega) (by omega), q_bd, R_choose hf (by omega) (by omega), q_bd, R_heap hd h hf hs hD (by omega), q_bd, q_lt, q_lt, nL_mul, nL_mul, nL_mul, nL_add, ← nI_succ]
        rfl
    · intro g14
      rw [if_pos (by rw [nI_lt_iff (by omega) (by omega)]; omega), q_lt, ← nI_succ]
  · intro g8
    rw [if_pos (by rw [nI_lt_iff (by omega) (by omega)]; omega)]
    rfl
theorem R_constants {d : qD} {M : pm_M} (hd : qOK d) (h : qR M d) (hf : qFa M) {D : Nat → Nat → Nat} (hD : ∀ c s, c < 2 → s < 5 → M.2 60 (5 * c + s) = nL (D c s)) {m z : Nat} {zI : Int32} (hz : qas zI z) (hm : m ≤ 5) : ∃ M', sR_constants (nI m) zI M = some M' ∧ qfL [62, 63] M M' ∧ qTR M' (qcn D (qK d) z m) := by
  unfold sR_constants
  refine q_fz (fun o => ∃ M', o = some M' ∧ qfL [62, 63] M M' ∧ qTR M' (qcn D (qK d) z m)) (fun i N (g : Int32 → pm_M → Option pm_M) => g (nI i) N) (fun i N => N = mu_L M 62 (qfl (M.2 62) 0 i)) 49 ?_ ?_ (by omega) (by rw [qfl_0]; exact (uL_self M 62).symm)
  · rintro i N hi rfl g
    refine ⟨_, rfl, ?_⟩
    rw [if_neg (by rw [q49, nI_le_iff (by omega) (by omega)]; omega), if_pos (by rw [nI_in_iff (by omega)]; exact hi), q_lt, q_lt, nI_clamp (by omega), sL_u, uL_a, uL_uL, qfl_set, ← nI_succ]
  · rintro N rfl g
    rw [if_pos (by decide), q_lt]
    refine q_fz (fun o => ∃ M', o = some M' ∧ qfL [62, 63] M M' ∧ qTR M' (qcn D (qK d) z m)) (fun i N (g : Int32 → pm_M → Option pm_M) => g (nI i) N) (fun i N => qfL [62, 63] M N ∧ qTR N (qcn D (qK d) z i)) m ?_ ?_ (by omega) ⟨qfL_tr (qfL_u (by decide)) (qfL_s (by decide)), fun x y hx hy h8 => ?_⟩
    · rintro i N hi ⟨f, t⟩ g5
      rw [if_neg (by rw [nI_le_iff (by omega) (by omega)]; omega)]
      by_cases w : i = z
      · rw [if_neg (fun u => u ((hz i (by omega)).mpr w)), q_lt, ← nI_succ]
        refine ⟨N, ⟨f, fun x y hx hy h8 => ?_⟩, rfl⟩
        rw [t x y hx hy h8]
        show _ = nL ((if i = z then qcn D (qK d) z i x y else qgw D (qK d) (qcn D (qK d) z i) i x y))
        rw [if_pos w]
      · rw [if_pos (fun u => w ((hz i (by omega)).mp u))]
        have hQ : ∀ x y, qcn D (qK d) z (i + 1) x y = qgw D (qK d) (qcn D (qK d) z i) i x y := fun x y => by
          show (if i = z then qcn D (qK d) z i x y else qgw D (qK d) (qcn D (qK d) z i) i x y) = _
          rw [if_neg w]
        refine q_fz (fun o => ∃ a', (qfL [62, 63] M a' ∧ qTR a' (qcn D (qK d) z (i + 1))) ∧ o = g5 (nI (i + 1)) a') (fun p L (g : Int32 → pm_M → Option pm_M) => g (nI p) L) (fun p L => qfL [62, 63] M L ∧ qTR L (qcn D (qK d) z i) ∧ ∀ x y, x < p → y ≤ 6 → x + y ≤ 8 → L.2 63 (7 * x + y) = nL (qcn D (qK d) z (i + 1) x y)) 7 ?_ ?_ (by omega) ⟨f, t, fun x y hx => absurd hx (Nat.not_lt_zero x)⟩
        · rintro p L hp ⟨l1, l2, l3⟩ g8
          rw [if_neg (by rw [show (7 : Int32) = nI 7 from rfl, nI_le_iff (by omega) (by omega)]; omega)]
          refine q_fx (fun o => ∃ a', (qfL [62, 63] M a' ∧ qTR a' (qcn D (qK d) z i) ∧ ∀ x y, x < p + 1 → y ≤ 6 → x + y ≤ 8 → a'.2 63 (7 * x + y) = nL (qcn D (qK d) z (i + 1) x y)) ∧ o = g8 (nI (p + 1)) a') (fun q L (g : Int32 → pm_M → Option pm_M) => g (nI q) L) (fun q L => qfL [62, 63] M L ∧ qTR L (qcn D (qK d) z i) ∧ (∀ x y, x < p → y ≤ 6 → x + y ≤ 8 → L.2 63 (7 * x + y) = nL (qcn D (qK d) z (i + 1) x y)) ∧ ∀ y, y < q → p + y ≤ 8 → L.2 63 (7 * p + y) = nL (qcn D (qK d) z (i + 1) p y)) 7 ?_ ?_ (by omega) ⟨l1, l2, l3, fun y hy => absurd hy (Nat.not_lt_zero y)⟩
          · rintro q K hq ⟨k1, k2, k3, k4⟩ g17
            rw [if_neg (by rw [show (7 : Int32) = nI 7 from rfl, nI_le_iff (by omega) (by omega)]; omega), qI_add]
            by_cases h8 : p + q ≤ 8
            · have hin : pm_in (nI (7 * p + q)) 49 := by rw [nI_in_iff (by omega)]; omega
              have hck : (nI (7 * p + q)).toNatClampNeg = 7 * p + q := nI_clamp (by omega)
              have hRK : qR K d := qR_1 h k1.1
              have hfK : qFa K := fun k hk => by rw [k1.2 61 (by decide)]; exact hf k hk
              rw [if_neg (by rw [show (8 : Int32) = nI 8 from rfl, nI_lt_iff (by omega) (by omega)]; omega), R_grows hd hRK hfK (D := D) (by omega) (fun c hc => by rw [k1.2 60 (by decide)]; exact hD c i hc (by omega)) (by omega) (by omega) h8 k2, q_bd, q7s', if_pos hin, hck, q_lt, q_lt, ← nI_succ]
              refine Or.inr ⟨_, ?_, rfl⟩
              refine ⟨qfL_tr k1 (qfL_s (by decide)), fun x y hx hy hxy => ?_, fun x y hx hy hxy => ?_, fun y hy hpy => ?_⟩
              · rw [sL_2, if_neg (by decide)]
                exact k2 x y hx hy hxy
              · rw [sL_ne _ _ _ _ _ (by omega)]
                exact k3 x y hx hy hxy
              · by_cases u : y = q
                · rw [u, sL_at, hQ]
                · rw [sL_ne _ _ _ _ _ (by omega)]
                  exact k4 y (by omega) hpy
            · rw [if_pos (by rw [show (8 : Int32) = nI 8 from rfl, nI_lt_iff (by omega) (by omega)]; omega), q_lt, ← nI_succ]
              refine Or.inl ⟨K, ⟨k1, k2, fun x y hx hy hxy => ?_⟩, rfl⟩
              by_cases u : x = p
              · rw [u] at hxy ⊢
                exact k4 y (by omega) hxy
              · exact k3 x y (by omega) hy hxy
          · rintro K ⟨k1, k2, k3, k4⟩ g17
            rw [if_pos (by decide), q_lt, ← nI_succ]
            refine ⟨K, ⟨k1, k2, fun x y hx hy hxy => ?_⟩, rfl⟩
            by_cases u : x = p
            · rw [u] at hxy ⊢
              exact k4 y (by omega) hxy
            · exact k3 x y (by omega) hy hxy
        · rintro L ⟨l1, l2, l3⟩ g8
          rw [if_pos (by decide)]
          refine q_fz (fun o => ∃ a', (qfL [62, 63] M a' ∧ qTR a' (qcn D (qK d) z (i + 1))) ∧ o = g5 (nI (i + 1)) a') (fun k K (g : Int32 → pm_M → Option pm_M) => g (nI k) K) (fun k K => qfL [62, 63] M K ∧ K.2 63 = L.2 63 ∧ ∀ j, j < k → K.2 62 j = L.2 63 j) 49 ?_ ?_ (by omega) ⟨l1, rfl, fun j hj => absurd hj (Nat.not_lt_zero j)⟩
          · rintro k K hk ⟨k1, k2, k3⟩ g11
            have hin : pm_in (nI k) 49 := by rw [nI_in_iff (by omega)]; omega
            have hck : (nI k).toNatClampNeg = k := nI_clamp (by omega)
            simp only [eq_true hin, hck, if_true]
            rw [if_neg (by rw [q49, nI_le_iff (by omega) (by omega)]; omega), q_lt, q_lt, ← nI_succ, k2]
            refine ⟨_, ?_, rfl⟩
            refine ⟨qfL_tr k1 (qfL_s (by decide)), by rw [sL_2, if_neg (by decide), k2], fun j hj => ?_⟩
            by_cases u : j = k
            · rw [u, sL_at]
            · rw [sL_ne _ _ _ _ _ u]
              exact k3 j (by omega)
          · rintro K ⟨k1, k2, k3⟩ g11
            rw [if_pos (by decide), q_lt, ← nI_succ]
            exact ⟨K, ⟨k1, fun x y hx hy hxy => by rw [k3 _ (by omega), l3 x y (by omega) hy hxy]⟩, rfl⟩
    · rintro N ⟨f, t⟩ g5
      rw [if_pos (Int32.le_refl _)]
      exact ⟨N, rfl, f, t⟩
    · show _ = nL (if x = 0 ∧ y = 0 then 1 else 0)
      by_cases q : x = 0 ∧ y = 0
      · rw [if_pos q, q.1, q.2]
        exact sL_at _ _ _ _
      · rw [if_neg q, sL_ne _ _ _ _ _ (by omega), uL_a, qfl_at _ _ (by omega)]
        rfl
