/-! THE LIKELIEST: the class's walk -/
def qCc (d : qD) (M0 M : pm_M) (c s : Nat) (σ : Nat → Nat) (b : qB) : Prop := (∀ x, x ≠ 28 → x ≠ 29 → M.1 x = M0.1 x) ∧ (∀ x, x ≠ 23 → M.2 x = M0.2 x) ∧ (∀ c' i, i < qS d → c' < c ∨ (c' = c ∧ i < s) → M.1 28 (5 * c' + i) = nI (σ (5 * c' + i))) ∧ M.2 23 4 = nL b.1 ∧ b.1 < 2 ^ 62 ∧ ∀ c' i, c' < 2 → i < qS d → M.1 29 (5 * c' + i) = nI (b.2 (5 * c' + i))
def qSimC (d : qD) (M0 : pm_M) (c s : Nat) (F : (Nat → Nat) → qB → qB) (f : Nat) : Prop := ∀ M σ b, qCc d M0 M c s σ b → qva d σ c s → ∃ M', sStates_tryPlace f (nI (c * qS d + s)) (nI (if c = 0 then qP d 0 - qsu σ 0 s else 0)) (nI (if c = 0 then qP d 1 else qP d 1 - qsu σ 1 s)) (nL (qww d σ c s)) M = some M' ∧ qCc d M0 M' c s σ (F σ b)
/-- one place's step -/
noncomputable def qstp (d : qD) (c s : Nat) (G : (Nat → Nat) → qB → qB) (σ : Nat → Nat) (b : qB) : qB := qdw (fun n b => if n = 0 ∨ 0 < qdd d c s then G (fupd σ (5 * c + s) n) b else b) (if s + 1 = qS d then qP d c - qsu σ c s else 0) (qP d c - qsu σ c s + 1 - (if s + 1 = qS d then qP d c - qsu σ c s else 0)) b
theorem qCc_set {d : qD} {M0 M : pm_M} {c s n : Nat} {σ : Nat → Nat} {b : qB} (h : qCc d M0 M c s σ b) (hS : qS d ≤ 5) (hs : s < qS d) : qCc d M0 (pm_sI M 28 (5 * c + s) (nI n)) c (s + 1) (fupd σ (5 * c + s) n) b := by
  obtain ⟨h1, h2, h3, h4, h5, h6⟩ := h
  refine ⟨fun x hx hx2 => ?_, h2, fun c' i hi hci => ?_, h4, h5, fun c' i hc' hi => ?_⟩
  · rw [sI_1, if_neg hx]
    exact h1 x hx hx2
  · rw [sI_1, if_pos rfl]
    unfold upd fupd
    by_cases q : 5 * c' + i = 5 * c + s
    · rw [if_pos q, if_pos q]
    · rw [if_neg q, if_neg q]
      exact h3 c' i hi (by omega)
  · rw [sI_1, if_neg (by decide)]
    exact h6 c' i hc' hi
theorem qCc_back {d : qD} {M0 M : pm_M} {c s n : Nat} {σ : Nat → Nat} {b : qB} (hS : qS d ≤ 5) (hs : s < qS d) (h : qCc d M0 M c (s + 1) (fupd σ (5 * c + s) n) b) : qCc d M0 M c s σ b := by
  obtain ⟨h1, h2, h3, h4, h5, h6⟩ := h
  refine ⟨h1, h2, fun c' i hi hci => ?_, h4, h5, h6⟩
  rw [h3 c' i hi (by omega), fupd_ne σ n (show 5 * c' + i ≠ 5 * c + s by omega)]
theorem qSimC_step {d : qD} (hd : qOK d) (hsn : qsnd d) {M0 : pm_M} (hSt : qSt M0 d (qdd d)) {c s f : Nat} (hc : c < 2) (hs : s < qS d) {G : (Nat → Nat) → qB → qB} (ih : qSimC d M0 c (s + 1) G f) : qSimC d M0 c s (qstp d c s G) (f + 1) := by
  have hS := hd.1
  intro M σ b hM hv
  have hPc := hd.2.2.2.2.2.1 c
  have hP0 := hd.2.2.2.2.2.1 0
  have hP1 := hd.2.2.2.2.2.1 1
  have h88 := hd.2.2.2.2.2.2.1
  have hw := qww_le hd hsn hc (Nat.le_of_lt hs) hv
  generalize hL : qP d c - qsu σ c s = L
  have hL6 : L ≤ 6 := by omega
  generalize hlo : (if s + 1 = qS d then L else 0) = lo
  have hloL : lo ≤ L := by rw [← hlo]; split <;> omega
  let Z : Option pm_M → Prop := fun o => ∃ M', o = some M' ∧ qCc d M0 M' c s σ (qstp d c s G σ b)
  show Z (sStates_tryPlace (f + 1) _ _ _ _ M)
  let st : Nat → qB → qB := fun n b => if n = 0 ∨ 0 < qdd d c s then G (fupd σ (5 * c + s) n) b else b
  have hR : qstp d c s G σ b = qdw st lo (L + 1 - lo) b := by
    unfold qstp
    rw [hL, hlo]
  have h23 : M.1 23 = M0.1 23 := hM.1 23 (by decide) (by decide)
  -- what happens at a number
  have at_n : ∀ n N bn, lo ≤ n → n ≤ L → qCc d M0 N c s σ bn → (n = 0 ∨ 0 < qdd d c s) → 0 < qww d σ c s * qfn d σ c s n ∧ qww d σ c s * qfn d σ c s n < 2 ^ 62 ∧ ∃ M', sStates_tryPlace f (nI (c * qS d + (s + 1))) (nI (if c = 0 then L - n else 0)) (nI (if c = 0 then qP d 1 else L - n)) (nL (qww d σ c s * qfn d σ c s n)) (pm_sI N 28 (5 * c + s) (nI n)) = some M' ∧ qCc d M0 M' c s σ (st n bn) := by
    intro n N bn h1 h2 hN hD
    have hv' : qva d (fupd σ (5 * c + s) n) c (s + 1) := qva_step hc hs hS hv (by omega) (fun q => by rw [if_pos q] at hlo; omega) hD
    have e := qww_step d σ n hc (show s < 5 by omega) hS
    have p1 := qww_pos hd hc hv'
    have p2 := qww_le hd hsn hc (show s + 1 ≤ qS d by omega) hv'
    rw [e] at p1 p2
    obtain ⟨M', e1, k1⟩ := ih _ _ bn (qCc_set hN hS hs) hv'
    refine ⟨p1, by omega, M', ?_, ?_⟩
    · rw [e] at e1
      have eq : ∀ c', c' = c → qP d c' - qsu (fupd σ (5 * c + s) n) c' (s + 1) = L - n := by
        rintro c' rfl
        rw [qsu_s, qsu_ne σ n (fun j hj => by omega), fupd_at]
        omega
      rw [← e1]
      rcases (show c = 0 ∨ c = 1 by omega) with rfl | rfl
      · rw [if_pos rfl, if_pos rfl, if_pos rfl, if_pos rfl, eq 0 rfl]
      · rw [if_neg (by decide), if_neg (by decide), if_neg (by decide), if_neg (by decide), eq 1 rfl]
    · have hst : st n bn = G (fupd σ (5 * c + s) n) bn := if_pos hD
      rw [hst]
      exact qCc_back hS hs k1
  have hfin : ∀ N, (∃ bj, qCc d M0 N c s σ bj ∧ qdw st lo (lo - lo) bj = qdw st lo (L + 1 - lo) b) → Z (some N) := by
    rintro N ⟨bj, k1, k2⟩
    rw [Nat.sub_self] at k2
    refine ⟨N, rfl, ?_⟩
    rw [hR, ← k2]
    exact k1
  have hnxt : ∀ j bj, lo ≤ j → qdw st lo (j + 1 - lo) bj = qdw st lo (L + 1 - lo) b → qdw st lo (j - lo) (st j bj) = qdw st lo (L + 1 - lo) b := by
    intro j bj h1 h2
    rw [← h2, show j + 1 - lo = (j - lo) + 1 by omega]
    show _ = qdw st lo (j - lo) (st (lo + (j - lo)) bj)
    rw [show lo + (j - lo) = j by omega]
  have hskip : ∀ j bj, ¬ (j = 0 ∨ 0 < qdd d c s) → st j bj = bj := fun j bj h => if_neg h
  have hz : ∀ n, n ≤ L → ¬ (n = 0 ∨ 0 < qdd d c s) → qww d σ c s * qfn d σ c s n = 0 := by
    intro n hn h
    have : ¬ 0 < qfn d σ c s n := fun q => h ((qfn_0 (by omega) (by omega)).mp q)
    rw [show qfn d σ c s n = 0 by omega, Nat.mul_zero]
  have hin10 : ∀ a, a < 10 → pm_in (nI a) 10 := fun a ha => by rw [nI_in_iff (by omega)]; exact ha
  have hck : (nI s).toNatClampNeg = s := nI_clamp (by omega)
  have hck5 : (nI (5 + s)).toNatClampNeg = 5 + s := nI_clamp (by omega)
  have hin5 : pm_in (nI s) 5 := by rw [nI_in_iff (by omega)]; omega
  have h2S : (2 : Int32) * nI (qS d) = nI (2 * qS d) := by rw [q2, nI_mul]
  have hS1 : nI (qS d) - (1 : Int32) = nI (qS d - 1) := by rw [q1, nI_sub (by omega)]
  have hlast : ∀ i, i = s → (nI i = nI (qS d - 1) ↔ s + 1 = qS d) := by
    rintro i rfl
    rw [nI_inj (by omega) (by omega)]
    omega
  have hloI : (if ¬ nI s = nI (qS d - 1) then (0 : Int32) else nI L) = nI lo := by
    rw [← hlo]
    by_cases q : s + 1 = qS d
    · rw [if_neg (fun z => z ((hlast s rfl).mpr q)), if_pos q]
    · rw [if_pos (fun z => q ((hlast s rfl).mp z)), if_neg q]
      rfl
  rcases (show c = 0 ∨ c = 1 by omega) with rfl | rfl
  · show Z (if nI (0 * qS d + s) < (2 : Int32) * (M.1 23 0) then _ else _)
    rw [if_pos (show (0 : Nat) = 0 from rfl), if_pos (show (0 : Nat) = 0 from rfl), hL, show 0 * qS d + s = s by omega, h23, hSt.1, h2S, if_pos (by rw [nI_lt_iff (by omega) (by omega)]; omega)]
    rw [q_jn, if_pos (show nI s < nI (qS d) by rw [nI_lt_iff (by omega) (by omega)]; exact hs)]
    simp only [q_jn, if_true, q_lt, Int32.zero_add, eq_true (hin10 s (by omega)), hck]
    have main : Z (pm_loop (fun _ _ => none) (fun (g17 : Int32 → pm_M → Option (pm_M)) x19 M18 => if x19 < nI lo then (some M18) else (pm_bd (sC_choose (nI L) x19 M18) fun v21 M20 => pm_bd (sC_power (M20.2 25 s) x19 M20) fun v23 M22 => if ¬ (lg_cmp (nL (qww d σ 0 s) * v21 * v23) (0 : Int64)) = 0 then (pm_bv (sStates_tryPlace f (nI s + (1 : Int32)) (nI L - x19) (nI (qP d 1)) (nL (qww d σ 0 s) * v21 * v23) (pm_sI M22 28 s x19)) fun M35 => g17 (x19 + (-1 : Int32)) M35) else g17 (x19 + (-1 : Int32)) M22)) 1000000 (nI L) M) := by
      refine q_dl Z (fun j N (g : Int32 → pm_M → Option pm_M) => g (hI j) N) (fun j N => j ≤ L + 1 ∧ ∃ bj, qCc d M0 N 0 s σ bj ∧ qdw st lo (j - lo) bj = qdw st lo (L + 1 - lo) b) lo ?_ ?_ (N := L + 1) (n := 1000000) (a := M) (by omega) (by omega) ⟨Nat.le_refl _, b, hM, rfl⟩
      · rintro j N hj ⟨hjL, bj, k1, k2⟩ g
        have e25 : N.2 25 s = nL (qdd d 0 s) := by
          rw [k1.2.1 25 (by decide)]
          have := hSt.2.2.2.2 0 s (by omega) hs
          rwa [Nat.mul_zero, Nat.zero_add] at this
        have efn : qww d σ 0 s * qch L j * qdd d 0 s ^ j = qww d σ 0 s * qfn d σ 0 s j := by
          unfold qfn
          rw [hL, if_neg (fun q => absurd q.1 (by decide)), Nat.mul_one, Nat.mul_assoc]
        rw [show hI (j + 1) = nI j from rfl, if_neg (by rw [nI_lt_iff (by omega) (by omega)]; omega), C_choose hL6 (by omega), q_bd, e25, C_power _ _ (by omega), q_bd, nL_mul, nL_mul, efn, show nI j + (-1 : Int32) = hI j from hI_dn (j := j) (by omega)]
        by_cases hD : j = 0 ∨ 0 < qdd d 0 s
        · obtain ⟨p1, p2, M', e1, k3⟩ := at_n j N bj hj (by omega) k1 hD
          rw [if_pos rfl, if_pos rfl, show 0 * qS d + (s + 1) = s + 1 by omega, show 5 * 0 + s = s by omega] at e1
          rw [if_pos (by rw [cmp_eq, nL_0 (by omega)]; omega), ← nI_succ, nI_sub (by omega), e1, q_bv]
          exact ⟨M', ⟨by omega, _, k3, hnxt j bj hj k2⟩, rfl⟩
        · rw [hz j (by omega) hD, if_neg (fun q => q rfl)]
          exact ⟨N, ⟨by omega, bj, k1, by have := hnxt j bj hj k2; rwa [hskip j bj hD] at this⟩, rfl⟩
      · rintro N ⟨-, hb⟩ g
        rw [if_pos]
        · exact hfin N hb
        · cases lo with
          | zero => decide
          | succ m =>
            show nI m < nI (m + 1)
            rw [nI_lt_iff (by omega) (by omega)]
            omega
    rw [h23, hSt.1, hS1]
    by_cases q : ¬ nI s = nI (qS d - 1)
    · rw [if_pos q] at hloI ⊢
      rw [← hloI] at main
      exact main
    · rw [if_neg q] at hloI ⊢
      rw [← hloI] at main
      exact main
  · show Z (if nI (1 * qS d + s) < (2 : Int32) * (M.1 23 0) then _ else _)
    have e6 : nI (qS d + s) - nI (qS d) = nI s := by rw [nI_sub (by omega)]; congr 1; omega
    rw [if_neg (show ¬ (1 : Nat) = 0 by decide), if_neg (show ¬ (1 : Nat) = 0 by decide), hL, show 1 * qS d + s = qS d + s by omega, h23, hSt.1, h2S, if_pos (by rw [nI_lt_iff (by omega) (by omega)]; omega)]
    rw [q_jn, if_neg (show ¬ nI (qS d + s) < nI (qS d) by rw [nI_lt_iff (by omega) (by omega)]; omega)]
    simp only [q_jn, show ((1 : Int32) = 0) = False from eq_false (by decide), if_false, q_lt, q5s, eq_true (hin10 s (by omega)), eq_true (hin10 (5 + s) (by omega)), eq_true hin5, if_true, hck, hck5, h23, hSt.1, e6, hS1]
    have main : Z (pm_loop (fun _ _ => none) (fun (g17 : Int32 → pm_M → Option (pm_M)) x19 M18 => if x19 < nI lo then (some M18) else (pm_bd (sC_choose (nI L) x19 M18) fun v21 M20 => pm_bd (sC_power (M20.2 25 (5 + s)) x19 M20) fun v23 M22 => if ¬ M22.1 24 s = 0 then (if ¬ (lg_cmp (nL (qww d σ 1 s) * v21 * v23) (0 : Int64)) = 0 then (pm_bv (sStates_tryPlace f (nI (qS d + s) + (1 : Int32)) (0 : Int32) (nI L - x19) (nL (qww d σ 1 s) * v21 * v23) (pm_sI M22 28 (5 + s) x19)) fun M35 => g17 (x19 + (-1 : Int32)) M35) else g17 (x19 + (-1 : Int32)) M22) else pm_bd (sC_factorial (M22.1 28 s + x19) M22) fun v39 M38 => if ¬ (lg_cmp (nL (qww d σ 1 s) * v21 * v23 * v39) (0 : Int64)) = 0 then (pm_bv (sStates_tryPlace f (nI (qS d + s) + (1 : Int32)) (0 : Int32) (nI L - x19) (nL (qww d σ 1 s) * v21 * v23 * v39) (pm_sI M38 28 (5 + s) x19)) fun M35 => g17 (x19 + (-1 : Int32)) M35) else g17 (x19 + (-1 : Int32)) M38)) 1000000 (nI L) M) := by
      refine q_dl Z (fun j N (g : Int32 → pm_M → Option pm_M) => g (hI j) N) (fun j N => j ≤ L + 1 ∧ ∃ bj, qCc d M0 N 1 s σ bj ∧ qdw st lo (j - lo) bj = qdw st lo (L + 1 - lo) b) lo ?_ ?_ (N := L + 1) (n := 1000000) (a := M) (by omega) (by omega) ⟨Nat.le_refl _, b, hM, rfl⟩
      · rintro j N hj ⟨hjL, bj, k1, k2⟩ g
        have e25 : N.2 25 (5 + s) = nL (qdd d 1 s) := by
          rw [k1.2.1 25 (by decide)]
          exact hSt.2.2.2.2 1 s (by omega) hs
        have e24 : N.1 24 s = b2i (qK d s = 3) := by
          rw [k1.1 24 (by decide) (by decide)]
          exact hSt.2.2.2.1 s hs
        have e28 : N.1 28 s = nI (σ s) := by
          have := k1.2.2.1 0 s hs (Or.inl (by decide))
          rwa [Nat.mul_zero, Nat.zero_add] at this
        obtain ⟨-, hx0⟩ := hv.2.2.2 rfl
        have hσ : σ s ≤ qP d 0 := by
          rw [← hx0]
          have := qsm_at (f := fun i => σ (5 * 0 + i)) (i := s) (qS d) hs
          rwa [show 5 * 0 + s = s by omega] at this
        have fin : ∀ W, W = qww d σ 1 s * qfn d σ 1 s j → ∃ a', ((j ≤ L + 1 ∧ ∃ bj, qCc d M0 a' 1 s σ bj ∧ qdw st lo (j - lo) bj = qdw st lo (L + 1 - lo) b)) ∧ (if ¬ (lg_cmp (nL W) (0 : Int64)) = 0 then (pm_bv (sStates_tryPlace f (nI (qS d + s) + (1 : Int32)) (0 : Int32) (nI L - nI j) (nL W) (pm_sI N 28 (5 + s) (nI j))) fun M35 => g (hI j) M35) else g (hI j) N) = g (hI j) a' := by
          rintro W rfl
          by_cases hD : j = 0 ∨ 0 < qdd d 1 s
          · obtain ⟨p1, p2, M', e1, k3⟩ := at_n j N bj hj (by omega) k1 hD
            rw [if_neg (by decide), if_neg (by decide), show 1 * qS d + (s + 1) = qS d + s + 1 by omega, show 5 * 1 + s = 5 + s by omega] at e1
            rw [if_pos (by rw [cmp_eq, nL_0 (by omega)]; omega), ← nI_succ, nI_sub (by omega), show (0 : Int32) = nI 0 from rfl, e1, q_bv]
            exact ⟨M', ⟨by omega, _, k3, hnxt j bj hj k2⟩, rfl⟩
          · rw [hz j (by omega) hD, if_neg (fun q => q rfl)]
            exact ⟨N, ⟨by omega, bj, k1, by have := hnxt j bj hj k2; rwa [hskip j bj hD] at this⟩, rfl⟩
        rw [show hI (j + 1) = nI j from rfl, if_neg (by rw [nI_lt_iff (by omega) (by omega)]; omega), C_choose hL6 (by omega), q_bd, e25, C_power _ _ (by omega), q_bd, nL_mul, nL_mul, e24, e28, show nI j + (-1 : Int32) = hI j from hI_dn (j := j) (by omega)]
        by_cases k3 : qK d s = 3
        · rw [b2i_t k3, if_pos (by decide)]
          refine fin _ ?_
          unfold qfn
          rw [hL, if_neg (fun q => q.2 k3), Nat.mul_one, Nat.mul_assoc]
        · rw [b2i_f k3, if_neg (fun q => q rfl), qI_add, C_factorial (by omega), q_bd, nL_mul]
          refine fin _ ?_
          unfold qfn
          rw [hL, if_pos ⟨rfl, k3⟩, Nat.mul_assoc, Nat.mul_assoc, Nat.mul_assoc]
      · rintro N ⟨-, hb⟩ g
        rw [if_pos]
        · exact hfin N hb
        · cases lo with
          | zero => decide
          | succ m =>
            show nI m < nI (m + 1)
            rw [nI_lt_iff (by omega) (by omega)]
            omega
    by_cases q : ¬ nI s = nI (qS d - 1)
    · rw [if_pos q] at hloI ⊢
      rw [← hloI] at main
      exact main
    · rw [if_neg q] at hloI ⊢
      rw [← hloI] at main
      exact main
