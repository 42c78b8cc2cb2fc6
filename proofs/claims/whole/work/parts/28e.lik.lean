/-! THE LIKELIEST: the reference's walk as a whole -/
theorem R_last {d : qD} (hd : qOK d) (hsn : qsnd d) {M0 : pm_M} (hW : qRw M0 d) {c s f : Nat} (hc : c < 2) (hs : s + 1 = qS d) {G : (Nat → Nat) → qB → qB} (hG : ∀ M σ b, qRc d M0 M c (qS d) σ b → qva d σ c (qS d) → ∃ M', (if ¬ nI c = 0 then (pm_bd (sR_weight M) fun v16 M15 => if (lg_cmp v16 (M15.2 49 20)) ≤ 0 then (some M15) else (pm_bd (sR_weight M15) fun v18 M17 => pm_lt (pm_sL M17 49 20 v18) fun M19 => pm_loop (fun _ _ => none) (fun (g20 : Int32 → pm_M → Option (pm_M)) x22 M21 => if (10 : Int32) ≤ x22 then (some M21) else (if pm_in x22 10 then (if pm_in x22 10 then (pm_lt (pm_sI M21 65 x22.toNatClampNeg ((M21.1 64 x22.toNatClampNeg))) fun M23 => pm_lt ((x22 + (1 : Int32))) fun x24 => g20 x24 M23) else none) else none)) 1000000 (0 : Int32) M19)) else (pm_bv (sR_walk f (M.1 49 1) (M.1 53 1) M) fun M25 => some M25)) = some M' ∧ qRc d M0 M' c (qS d) σ (G σ b)) : qSimR d M0 c s (qstp d c s G) (f + 1) := by
  have hS := hd.1
  intro M σ b hM hv
  have hPc := hd.2.2.2.2.2.1 c
  have hWM := qRw_c hW hM
  have h20 := qdd_20 hd hsn c s hc
  obtain ⟨d1, d2, d3⟩ := bi_dm (qS d) (by omega) c hc s (by omega)
  generalize hL : qP d c - qsu σ c s = L
  let Z : Option pm_M → Prop := fun o => ∃ M', o = some M' ∧ qRc d M0 M' c s σ (qstp d c s G σ b)
  have hR : qstp d c s G σ b = if L = 0 ∨ 0 < qdd d c s then G (fupd σ (5 * c + s) L) b else b := by
    unfold qstp
    rw [hL, if_pos hs, show L + 1 - L = 1 by omega]
    rfl
  have hin : pm_in (nI (5 * c + s)) 10 := by rw [nI_in_iff (by omega)]; omega
  have hck : (nI (5 * c + s)).toNatClampNeg = 5 * c + s := nI_clamp (by omega)
  have hset := qRc_set (n := L) hM hS (show s < qS d by omega)
  have hD0 : lg_cmp (nL (qdd d c s)) 0 = 0 ↔ qdd d c s = 0 := by rw [cmp_eq]; exact nL_0 (by omega)
  show Z (if ¬ (M.1 49 1) = 0 then _ else none)
  rw [hWM.1.1, if_pos d3, d1, q_lt, if_pos d3, d2, q_lt, if_neg (fun q => q (by rw [q1, nI_sub (by omega), nI_inj (by omega) (by omega)]; omega)), R_lays hc (by omega), q_bv]
  have hWN := qRw_c hW hset
  have e60 : (pm_sI M 64 (5 * c + s) (nI L)).2 60 (5 * c + s) = nL (qdd d c s) := hWN.2.2 c s hc (by omega)
  refine q_jk Z (fun (j13 : pm_M → Option pm_M) => (L = 0 ∨ 0 < qdd d c s) → Z (j13 (pm_sI M 64 (5 * c + s) (nI L)))) ?_ ?_
  · intro hD
    have hv' : qva d (fupd σ (5 * c + s) L) c (s + 1) := qva_step hc (by omega) hS hv (by omega) (fun _ => hL.symm) hD
    rw [hs] at hv' hset
    obtain ⟨M', e1, k1⟩ := hG _ _ b hset hv'
    rw [← hs] at k1
    refine ⟨M', e1, ?_⟩
    rw [hR, if_pos hD]
    exact qRc_back hS (by omega) k1
  · intro j13 hj
    by_cases z : L = 0
    · rw [if_pos (by rw [z]; decide)]
      exact hj (Or.inl z)
    · rw [if_neg (by rw [q0, nI_le_iff (by omega) (by omega)]; omega), qcs, if_pos hin, hck, e60]
      by_cases y : qdd d c s = 0
      · rw [if_neg (fun q => q (hD0.mpr y))]
        refine ⟨_, rfl, ?_⟩
        rw [hR, if_neg (by omega)]
        exact qRc_back hS (by omega) hset
      · rw [if_pos (fun q => y (hD0.mp q))]
        exact hj (Or.inr (by omega))
theorem qSimR_last0 {d : qD} (hd : qOK d) (hsn : qsnd d) {M0 : pm_M} (hW : qRw M0 d) {s f : Nat} (hs : s + 1 = qS d) {G : (Nat → Nat) → qB → qB} (h : qSimR d M0 1 0 G f) : qSimR d M0 0 s (qstp d 0 s G) (f + 1) := by
  refine R_last hd hsn hW (by omega) hs ?_
  intro M σ b hM hv
  have hWM := qRw_c hW hM
  obtain ⟨k1, k2, k3, k4, k5, k6⟩ := hM
  obtain ⟨v1, v2, v3, -⟩ := hv
  have e0 := v3 rfl
  obtain ⟨M', e1, m1, m2, m3, m4, m5, m6⟩ := h M σ b ⟨k1, k2, fun c' i hi hci => k3 c' i hi (by omega), k4, k5, k6⟩ ⟨fun i hi => absurd hi (Nat.not_lt_zero i), Nat.zero_le _, fun q => by omega, fun _ => ⟨fun i hi => by have := v1 i hi; rwa [Nat.mul_zero, Nat.zero_add] at this, e0⟩⟩
  refine ⟨M', ?_, m1, m2, fun c' i hi hci => m3 c' i hi (by omega), m4, m5, m6⟩
  rw [if_neg (fun q => q rfl), hWM.1.1, hWM.1.2.2.2.2.1]
  rw [show 1 * qS d + 0 = qS d by omega, show qP d 1 - qsu σ 1 0 = qP d 1 from rfl] at e1
  rw [e1, q_bv]
theorem qSimR_last1 {d : qD} (hd : qOK d) (hsn : qsnd d) {M0 : pm_M} (hW : qRw M0 d) {s : Nat} (hs : s + 1 = qS d) (f : Nat) : qSimR d M0 1 s (qstp d 1 s (qlf d)) (f + 1) := by
  have hS := hd.1
  refine R_last hd hsn hW (by omega) hs ?_
  intro M σ b hM hv
  have hWM := qRw_c hW hM
  have hw := qww_le hd hsn (c := 1) (by omega) (Nat.le_refl _) hv
  have hp := qww_pos hd (c := 1) (by omega) hv
  have hwe : qww d σ 1 (qS d) = qwg d σ := by unfold qww qwg; rw [if_neg (by decide)]
  rw [hwe] at hw hp
  obtain ⟨k1, k2, k3, k4, k5, k6⟩ := id hM
  have hWt := R_weight hd hWM.1 hWM.2.1 hWM.2.2 (σ := σ) (fun c i hc hi => k3 c i hi (by omega)) (hv.2.2.2 rfl).2 (hv.2.2.1 rfl)
  have hcmp : lg_cmp (nL (qwg d σ)) (M.2 49 20) ≤ 0 ↔ ¬ b.1 < qwg d σ := by
    rw [k4, cmp_le]
    by_cases z : b.1 = 0
    · rw [if_pos z]
      constructor
      · intro q
        exfalso
        rw [Int64.le_iff_toInt_le, nL_toInt (by omega), show (-1 : Int64).toInt = -1 from by decide] at q
        omega
      · intro q
        exact absurd (by omega) q
    · rw [if_neg z, nL_le_iff (by omega) (by omega)]
      omega
  rw [if_pos (by decide), hWt, q_bd]
  unfold qlf
  by_cases q : b.1 < qwg d σ
  · rw [if_neg (fun z => hcmp.mp z q), if_pos q, hWt, q_bd, q_lt]
    refine q_fz (fun o => ∃ M', o = some M' ∧ qRc d M0 M' 1 (qS d) σ (qwg d σ, σ)) (fun i N (g : Int32 → pm_M → Option pm_M) => g (nI i) N) (fun i N => (∀ x, x ≠ 65 → N.1 x = M.1 x) ∧ N.2 = (pm_sL M 49 20 (nL (qwg d σ))).2 ∧ ∀ k, k < i → N.1 65 k = M.1 64 k) 10 ?_ ?_ (n := 1000000) (by omega) (a := pm_sL M 49 20 (nL (qwg d σ))) ⟨fun x _ => rfl, rfl, fun k hk => absurd hk (Nat.not_lt_zero k)⟩
    · rintro i N hi ⟨n1, n2, n3⟩ g
      have hin : pm_in (nI i) 10 := by rw [nI_in_iff (by omega)]; exact hi
      have hck : (nI i).toNatClampNeg = i := nI_clamp (by omega)
      simp only [eq_true hin, hck, if_true]
      rw [if_neg (by rw [q10, nI_le_iff (by omega) (by omega)]; omega), q_lt, q_lt, ← nI_succ]
      refine ⟨_, ?_, rfl⟩
      refine ⟨fun x hx => by rw [sI_1, if_neg hx]; exact n1 x hx, n2, fun k hk => ?_⟩
      rw [sI_1, if_pos rfl]
      unfold upd
      by_cases u : k = i
      · rw [if_pos u, n1 64 (by decide), u]
      · rw [if_neg u]
        exact n3 k (by omega)
    · rintro N ⟨n1, n2, n3⟩ g
      rw [if_pos (by decide)]
      refine ⟨N, rfl, fun x hx hx2 => by rw [n1 x hx2]; exact k1 x hx hx2, fun x hx => by rw [n2, sL_2, if_neg hx]; exact k2 x hx, fun c' i hi hci => by rw [n1 64 (by decide)]; exact k3 c' i hi hci, ?_, by show qwg d σ < 2 ^ 62; omega, fun c' i hc' hi => ?_⟩
      · rw [n2, sL_at]
        exact (if_neg (show ¬ qwg d σ = 0 by omega)).symm
      · rw [n3 _ (by omega)]
        exact k3 c' i hi (by omega)
  · rw [if_pos (hcmp.mpr q), if_neg q]
    exact ⟨M, rfl, hM⟩
theorem qSimR_ly {d : qD} (hd : qOK d) (hsn : qsnd d) {M0 : pm_M} (hW : qRw M0 d) {c f : Nat} (hc : c < 2) {leaf : (Nat → Nat) → qB → qB} (h0 : ∀ s, s + 1 = qS d → qSimR d M0 c s (qstp d c s leaf) f) : ∀ k s, s + (k + 1) = qS d → qSimR d M0 c s (qly d c leaf (k + 1)) (f + k)
  | 0, s, h => by
    rw [qly_stp d c leaf h]
    exact h0 s h
  | k + 1, s, h => by
    rw [qly_stp d c leaf h]
    exact qSimR_step hd hsn hW hc (by omega) (qSimR_ly hd hsn hW hc h0 k (s + 1) (by omega))
theorem R_likeliest {M : pm_M} {d : qD} (hd : qOK d) (hsn : qsnd d) (hR : qR M d) (hF : qFa M) (hD : ∀ c s, c < 2 → s < 5 → M.2 60 (5 * c + s) = nL (qdd d c s)) : ∃ M', sR_likeliest M = some M' ∧ (∀ x, x ≠ 64 → x ≠ 65 → M'.1 x = M.1 x) ∧ (∀ x, x ≠ 49 → M'.2 x = M.2 x) ∧ ∀ c i, c < 2 → i < qS d → M'.1 65 (5 * c + i) = nI ((qbe d).2 (5 * c + i)) := by
  have hS := hd.1
  unfold sR_likeliest
  rw [q_lt]
  refine q_fz (fun o => ∃ M', o = some M' ∧ (∀ x, x ≠ 64 → x ≠ 65 → M'.1 x = M.1 x) ∧ (∀ x, x ≠ 49 → M'.2 x = M.2 x) ∧ ∀ c i, c < 2 → i < qS d → M'.1 65 (5 * c + i) = nI ((qbe d).2 (5 * c + i))) (fun i N (g : Int32 → pm_M → Option pm_M) => g (nI i) N) (fun i N => (∀ x, x ≠ 64 → x ≠ 65 → N.1 x = M.1 x) ∧ N.2 = (pm_sL M 49 20 (-1)).2 ∧ ∀ k, k < i → N.1 65 k = 0) 10 ?_ ?_ (n := 1000000) (by omega) (a := pm_sL M 49 20 (-1)) ⟨fun x _ _ => rfl, rfl, fun k hk => absurd hk (Nat.not_lt_zero k)⟩
  · rintro i N hi ⟨n1, n2, n3⟩ g
    have hin : pm_in (nI i) 10 := by rw [nI_in_iff (by omega)]; exact hi
    have hck : (nI i).toNatClampNeg = i := nI_clamp (by omega)
    simp only [eq_true hin, hck, if_true]
    rw [if_neg (by rw [q10, nI_le_iff (by omega) (by omega)]; omega), q_lt, q_lt, q_lt, ← nI_succ]
    refine ⟨_, ?_, rfl⟩
    refine ⟨fun x hx hx2 => by rw [sI_1, if_neg hx2, sI_1, if_neg hx]; exact n1 x hx hx2, n2, fun k hk => ?_⟩
    rw [sI_1, if_pos rfl]
    unfold upd
    by_cases u : k = i
    · rw [if_pos u]
    · rw [if_neg u, sI_1, if_neg (by decide)]
      exact n3 k (by omega)
  · rintro N ⟨n1, n2, n3⟩ g
    have hRN : qR N d := qR_of hR (by rw [n1 49 (by decide) (by decide)]) (fun x _ _ => n1 x (by omega) (by omega))
    rw [if_pos (by decide), hRN.1]
    by_cases z : qS d = 0
    · rw [if_pos (by rw [z]; decide)]
      exact ⟨N, rfl, n1, fun x hx => by rw [n2, sL_2, if_neg hx], fun c i _ hi => by omega⟩
    · rw [if_neg (by rw [q0, nI_le_iff (by omega) (by omega)]; omega), hRN.2.2.2.2.1]
      have hW : qRw N d := ⟨hRN, fun k hk => by rw [n2, sL_2, if_neg (by decide)]; exact hF k hk, fun c s hc hs => by rw [n2, sL_2, if_neg (by decide)]; exact hD c s hc hs⟩
      obtain ⟨m, hm⟩ : ∃ m, qS d = m + 1 := ⟨qS d - 1, by omega⟩
      have s1 := qSimR_ly hd hsn hW (c := 1) (f := 12 - 2 * qS d + 1) (by omega) (fun s hs => qSimR_last1 hd hsn hW hs (12 - 2 * qS d)) m 0 (by omega)
      have s0 := qSimR_ly hd hsn hW (c := 0) (by omega) (fun s hs => qSimR_last0 hd hsn hW hs s1) m 0 (by omega)
      obtain ⟨M', e, k1, k2, -, -, -, k6⟩ := s0 N (fun _ => 0) (0, fun _ => 0) ⟨fun _ _ _ => rfl, fun _ _ => rfl, fun c' i _ h => by omega, by rw [n2, sL_at]; rfl, by show 0 < 2 ^ 62; omega, fun c' i hc' hi => n3 _ (by omega)⟩ ⟨fun i hi => absurd hi (Nat.not_lt_zero i), Nat.zero_le _, fun q => by omega, fun q => absurd q (by decide)⟩
      rw [show 12 - 2 * qS d + 1 + m + 1 + m = 12 by omega, show 0 * qS d + 0 = 0 by omega, show qP d 0 - qsu (fun _ => 0) 0 0 = qP d 0 from rfl] at e
      rw [show (0 : Int32) = nI 0 from rfl, e, q_bv]
      refine ⟨M', rfl, fun x hx hx2 => by rw [k1 x hx hx2, n1 x hx hx2], fun x hx => by rw [k2 x hx, n2, sL_2, if_neg hx], fun c i hc hi => ?_⟩
      rw [k6 c i hc hi]
      unfold qbe
      rw [hm]
