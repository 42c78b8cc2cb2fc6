/-! VISITS, DEMANDS: the class's reckoning -/
theorem qC_of {d : qD} {M M' : pm_M} (h : qC M d) (e : ∀ b, b ≤ 6 → M'.1 b = M.1 b) : qC M' d := by
  obtain ⟨h1, h2, h3, h4, h5, h6⟩ := h
  exact ⟨by rw [e 1 (by omega)]; exact h1, fun k => by rw [e 2 (by omega)]; exact h2 k, fun k => by rw [e 3 (by omega)]; exact h3 k, fun k => by rw [e 4 (by omega)]; exact h4 k, fun k => by rw [e 5 (by omega)]; exact h5 k, fun k => by rw [e 6 (by omega)]; exact h6 k⟩
theorem qR_of {d : qD} {M M' : pm_M} (h : qR M d) (e1 : M'.1 49 1 = M.1 49 1) (e : ∀ b, 50 ≤ b → b ≤ 54 → M'.1 b = M.1 b) : qR M' d := by
  obtain ⟨h1, h2, h3, h4, h5, h6⟩ := h
  exact ⟨by rw [e1]; exact h1, fun k => by rw [e 50 (by omega) (by omega)]; exact h2 k, fun k => by rw [e 51 (by omega) (by omega)]; exact h3 k, fun k => by rw [e 52 (by omega) (by omega)]; exact h4 k, fun k => by rw [e 53 (by omega) (by omega)]; exact h5 k, fun k => by rw [e 54 (by omega) (by omega)]; exact h6 k⟩
/-- is a class fit: it has no parts, or goes round with no demand above 20 -/
def qft (d : qD) (c : Nat) : Prop := qP d c = 0 ∨ (qgo d c ∧ ∀ s, s < qS d → qde d c s ≤ 20)
noncomputable def qmx (d : qD) (c : Nat) : Nat → Nat
  | 0 => 0
  | n + 1 => max (qmx d c n) (qde d c n)
theorem qmx_le {d : qD} {c b : Nat} : ∀ n, qmx d c n ≤ b ↔ ∀ s, s < n → qde d c s ≤ b
  | 0 => ⟨fun _ s hs => absurd hs (Nat.not_lt_zero s), fun _ => Nat.zero_le _⟩
  | n + 1 => by
    have ih := qmx_le (d := d) (c := c) (b := b) n
    show max (qmx d c n) (qde d c n) ≤ b ↔ _
    rw [Nat.max_le, ih]
    constructor
    · rintro ⟨h1, h2⟩ s hs
      by_cases q : s = n
      · rw [q]; exact h2
      · exact h1 s (by omega)
    · intro h
      exact ⟨fun s hs => h s (by omega), h n (by omega)⟩
/-- behind the reckoning of a class -/
def qZr (d : qD) (c : Nat) (M : pm_M) (o : Option pm_M) : Prop := ∃ M', o = some M' ∧ (∀ b, b ≠ 16 → b ≠ 17 → b ≠ 18 → b ≠ 21 → M'.1 b = M.1 b) ∧ (∀ b, b ≠ 19 → b ≠ 20 → b ≠ 22 → M'.2 b = M.2 b) ∧ M'.1 17 = upd (M.1 17) c (nI (qrc d c)) ∧ M'.1 18 = upd (M.1 18) c (q2i (qgo d c)) ∧ M'.1 16 = upd (M.1 16) c (q2i (qft d c)) ∧ M'.2 19 = qro (M.2 19) c (qvi d c) (qS d) ∧ M'.2 20 = qro (M.2 20) c (qde d c) (qS d)
theorem qgo_ret {d : qD} (hd : qOK d) {c y : Nat} (hc : c < 2) (hx : qH d c = y + 1) : qrc d c &&& (31 - qset (fun s => qRp d c s y)) = 0 ↔ qgo d c := by
  have hlt := bi_lt_sub _ (qrc_lt d c) _ (qset_lt (fun s => qRp d c s y))
  rw [bi_0 _ hlt]
  constructor
  · intro h
    refine ⟨y, hx, fun s hs => ?_⟩
    have hs5 : s < 5 := by have := qin_S hd hc hs; have := hd.1; omega
    have h1 := h s hs5
    rw [bi_has_sub _ (qrc_lt d c) _ (qset_lt _) s hs5] at h1
    have h2 : qhas (qrc d c) s = true := (qset_has _ hs5).mpr hs
    rw [h2, Bool.true_and, Bool.not_eq_false'] at h1
    exact (qset_has _ hs5).mp h1
  · rintro ⟨z, hz, h⟩ k hk
    have : z = y := by omega
    subst this
    rw [bi_has_sub _ (qrc_lt d c) _ (qset_lt _) k hk]
    cases hb : qhas (qrc d c) k with
    | false => rfl
    | true =>
      rw [(qset_has _ hk).mpr (h k ((qset_has _ hk).mp hb))]
      rfl
theorem nL_max {a b : Nat} (ha : a < 2 ^ 63) (hb : b < 2 ^ 63) : (if nL b < nL a then nL a else nL b) = nL (max a b) := by
  by_cases h : b < a
  · rw [if_pos ((nL_lt_iff hb ha).mpr h), Nat.max_eq_left (by omega)]
  · rw [if_neg (fun q => h ((nL_lt_iff hb ha).mp q)), Nat.max_eq_right (by omega)]
theorem uI_0 (M : pm_M) (f : Nat → Int32) (a b : Nat) (h : b ≠ a) : (mu_I M a f).1 b = M.1 b := by rw [uI_1, if_neg h]
theorem uL_0 (M : pm_M) (f : Nat → Int64) (a b : Nat) (h : b ≠ a) : (mu_L M a f).2 b = M.2 b := by rw [uL_2, if_neg h]
theorem uI_a (M : pm_M) (f : Nat → Int32) (a : Nat) : (mu_I M a f).1 a = f := by rw [uI_1, if_pos rfl]
theorem uL_a (M : pm_M) (f : Nat → Int64) (a : Nat) : (mu_L M a f).2 a = f := by rw [uL_2, if_pos rfl]
theorem upd_at (f : Nat → Int32) (k : Nat) (x : Int32) : upd f k x k = x := if_pos rfl
theorem Tours_reckon {d : qD} {M : pm_M} (hd : qOK d) (h : qC M d) {c : Nat} (hc : c < 2) : qZr d c M (sTours_reckon (nI c) M) := by
  have hS := hd.1
  have hh := hd.2.2.2.2.1 c hc
  have hin2 : pm_in (nI c) 2 := by rw [nI_in_iff (by omega)]; omega
  have hc2 : (nI c).toNatClampNeg = c := nI_clamp (by omega)
  unfold sTours_reckon
  simp only [eq_true hin2, hc2, if_true, true_and]
  rw [q_lt, Tours_findReached hd h hc, q_bd, q_lt, sI_u]
  generalize hM4 : mu_I M 17 (upd (M.1 17) c (nI (qrc d c))) = M4
  have h4a : ∀ b, b ≠ 17 → M4.1 b = M.1 b := fun b hb => by rw [← hM4, uI_0 _ _ _ _ hb]
  have h4b : M4.2 = M.2 := by rw [← hM4]; rfl
  have h4c : M4.1 17 = upd (M.1 17) c (nI (qrc d c)) := by rw [← hM4, uI_a]
  have hC4 : qC M4 d := qC_of h (fun b hb => h4a b (by omega))
  refine q_jk (qZr d c M) (fun (j : Int32 → pm_M → Option pm_M) => qZr d c M (j (q2i (qgo d c)) M4)) ?_ ?_
  · show qZr d c M (if _ then _ else none)
    rw [if_pos q2i_01, q_lt, sI_u]
    generalize hM8 : mu_I M4 18 (upd (M4.1 18) c (q2i (qgo d c))) = M8
    have h8a : ∀ b, b ≠ 17 → b ≠ 18 → M8.1 b = M.1 b := fun b hb hb2 => by rw [← hM8, uI_0 _ _ _ _ hb2, h4a b hb]
    have h8b : M8.2 = M.2 := by rw [← hM8, uI_2, h4b]
    have h8c : M8.1 17 = upd (M.1 17) c (nI (qrc d c)) := by rw [← hM8, uI_0 _ _ _ _ (by decide), h4c]
    have h8d : M8.1 18 = upd (M.1 18) c (q2i (qgo d c)) := by rw [← hM8, uI_a, h4a 18 (by decide)]
    refine q_fz (qZr d c M) (fun i N (g : Int64 → Int32 → pm_M → Option (pm_M)) => g (nL (qgc d c i)) (nI i) N) (fun i N => (∀ b, b ≠ 21 → N.1 b = M8.1 b) ∧ (∀ b, b ≠ 19 → b ≠ 22 → N.2 b = M.2 b) ∧ N.2 19 = qro (M.2 19) c (qrw d c) i) (qS d) ?_ ?_ (by omega) ⟨fun b _ => rfl, fun b _ _ => by rw [h8b], by rw [qro_0, h8b]⟩
    · rintro i N hi ⟨n1, n2, n3⟩ g
      have hi5 : i < 5 := by omega
      have hCN : qC N d := qC_of h (fun b hb => by rw [n1 b (by omega), h8a b (by omega) (by omega)])
      have hle : ¬ N.1 1 0 ≤ nI i := by rw [hCN.1, nI_le_iff (by omega) (by omega)]; omega
      have hin : pm_in (nI (5 * c + i)) 10 := by rw [nI_in_iff (by omega)]; omega
      have hgl := qgc_le hd hc i
      have hrl := qrw_le hd hc i
      have hN18 : N.1 18 c = q2i (qgo d c) := by rw [n1 18 (by decide), h8d, upd_at]
      have hN17 : N.1 17 c = nI (qrc d c) := by rw [n1 17 (by decide), h8c, upd_at]
      have hck : (nI (5 * c + i)).toNatClampNeg = 5 * c + i := nI_clamp (by omega)
      simp only [qcs', eq_true hin, hck, if_true]
      rw [if_neg hle, hN18]
      refine q_jk (fun o => ∃ a', ((∀ b, b ≠ 21 → a'.1 b = M8.1 b) ∧ (∀ b, b ≠ 19 → b ≠ 22 → a'.2 b = M.2 b) ∧ a'.2 19 = qro (M.2 19) c (qrw d c) (i + 1)) ∧ o = g (nL (qgc d c (i + 1))) (nI (i + 1)) a') (fun (j31 : Int32 → pm_M → Option pm_M) => ∀ q, q = q2i (qgo d c ∧ qin d c i) → ∃ a', ((∀ b, b ≠ 21 → a'.1 b = M8.1 b) ∧ (∀ b, b ≠ 19 → b ≠ 22 → a'.2 b = M.2 b) ∧ a'.2 19 = qro (M.2 19) c (qrw d c) (i + 1)) ∧ j31 q N = g (nL (qgc d c (i + 1))) (nI (i + 1)) a') ?_ ?_
      · rintro q rfl
        refine q_jk (fun o => ∃ a', ((∀ b, b ≠ 21 → a'.1 b = M8.1 b) ∧ (∀ b, b ≠ 19 → b ≠ 22 → a'.2 b = M.2 b) ∧ a'.2 19 = qro (M.2 19) c (qrw d c) (i + 1)) ∧ o = g (nL (qgc d c (i + 1))) (nI (i + 1)) a') (fun (j34 : Int64 → pm_M → Option pm_M) => ∀ L : pm_M, (∀ b, b ≠ 21 → L.1 b = M8.1 b) → (∀ b, b ≠ 22 → L.2 b = N.2 b) → ∃ a', ((∀ b, b ≠ 21 → a'.1 b = M8.1 b) ∧ (∀ b, b ≠ 19 → b ≠ 22 → a'.2 b = M.2 b) ∧ a'.2 19 = qro (M.2 19) c (qrw d c) (i + 1)) ∧ j34 (nL (qrw d c i)) L = g (nL (qgc d c (i + 1))) (nI (i + 1)) a') ?_ ?_
        · intro L l1 l2
          refine ⟨mu_L L 19 (qro (M.2 19) c (qrw d c) (i + 1)), ⟨fun b hb => l1 b hb, fun b hb hb2 => by rw [uL_0 _ _ _ _ hb, l2 b hb2, n2 b hb hb2], uL_a _ _ _⟩, ?_⟩
          show pm_lt _ _ = _
          rw [q_lt, sL_u, l2 19 (by decide), n3, qro_set _ _ _ _ rfl, uL_a, qro_at _ _ _ (by omega), C_common (by omega) (by omega), q_bd, q_lt, ← nI_succ]
          rfl
        · intro j34 hj
          by_cases hq : qgo d c ∧ qin d c i
          · rw [q2i_t hq, if_neg (by decide)]
            obtain ⟨f, g', ht⟩ := Tours_treesTo hd hCN hc hi5 (qrc_lt d c) hN17 (m := qms d c i) rfl (qms_S hd hc hi5) rfl (qml_len _ (qms_lt d c hi5)) (fun k hk => by have := pos_net hd hc hq.1 hq.2 (m := qms d c i) rfl (qml_len _ (qms_lt d c hi5)) k hk; omega)
            rw [ht, q_bd, (qtr_ok hd hc hq.1 hq.2).1, iL_nat, Net_weightsFrom hd (qC_u hCN _ _) hc hi5, q_bd, nI_toL (by have := qwt_le hd c i; omega), nL_mul, ← qrw_t hq.1 hq.2]
            exact hj _ (fun b hb => by rw [uL_1, uI_0 _ _ _ _ hb, n1 b hb]) (fun b hb => by rw [uL_0 _ _ _ _ hb, uI_2])
          · rw [q2i_f hq, if_pos rfl]
            have := hj N n1 (fun b _ => rfl)
            rw [qrw_f hq] at this
            exact this
      · intro j31 hj
        rw [q_jn]
        by_cases hg : qgo d c
        · rw [q2i_t hg, if_neg (by decide), hN17, Tours_hasBit (qrc_lt d c) hi5, q_bd]
          by_cases hb : qhas (qrc d c) i = true
          · rw [if_pos hb, if_neg (by decide)]
            exact hj 1 (q2i_t ⟨hg, (qset_has _ hi5).mp hb⟩).symm
          · rw [if_neg hb, if_pos rfl]
            exact hj 0 (q2i_f (fun q => hb ((qset_has _ hi5).mpr q.2))).symm
        · rw [q2i_f hg, if_pos rfl]
          exact hj 0 (q2i_f (fun q => hg q.1)).symm
    · rintro N ⟨n1, n2, n3⟩ g
      have hCN : qC N d := qC_of h (fun b hb => by rw [n1 b (by omega), h8a b (by omega) (by omega)])
      have hgl := qgc_le hd hc (qS d)
      rw [if_pos (by rw [hCN.1]; exact Int32.le_refl _)]
      refine q_fz (qZr d c M) (fun i L (g : Int64 → Int32 → pm_M → Option (pm_M)) => g (nL (qmx d c i)) (nI i) L) (fun i L => (∀ b, b ≠ 21 → L.1 b = M8.1 b) ∧ (∀ b, b ≠ 19 → b ≠ 20 → b ≠ 22 → L.2 b = M.2 b) ∧ L.2 19 = qro (qro (M.2 19) c (qrw d c) (qS d)) c (qvi d c) i ∧ L.2 20 = qro (M.2 20) c (qde d c) i) (qS d) ?_ ?_ (by omega) ⟨n1, fun b hb _ hb2 => n2 b hb hb2, by rw [n3, qro_0], by rw [qro_0, n2 20 (by decide) (by decide)]⟩
      · rintro i L hi ⟨l1, l2, l3, l4⟩ g
        have hi5 : i < 5 := by omega
        have hCL : qC L d := qC_of h (fun b hb => by rw [l1 b (by omega), h8a b (by omega) (by omega)])
        have hle : ¬ L.1 1 0 ≤ nI i := by rw [hCL.1, nI_le_iff (by omega) (by omega)]; omega
        have hin : pm_in (nI (5 * c + i)) 10 := by rw [nI_in_iff (by omega)]; omega
        have hrl := qrw_le hd hc i
        have hvl := qvi_le hd hc i
        have hdl := qde_le hd hc i
        have htl := qtm_le hd c i
        have hml : qmx d c i ≤ 39858075000 := (qmx_le i).mpr (fun s _ => qde_le hd hc s)
        have hLi : L.2 19 (5 * c + i) = nL (qrw d c i) := by rw [l3, qro_ne _ _ _ (by omega), qro_at _ _ _ hi]
        have hck : (nI (5 * c + i)).toNatClampNeg = 5 * c + i := nI_clamp (by omega)
        simp only [qcs', eq_true hin, hck, if_true]
        rw [if_neg hle]
        refine q_jk (fun o => ∃ a', ((∀ b, b ≠ 21 → a'.1 b = M8.1 b) ∧ (∀ b, b ≠ 19 → b ≠ 20 → b ≠ 22 → a'.2 b = M.2 b) ∧ a'.2 19 = qro (qro (M.2 19) c (qrw d c) (qS d)) c (qvi d c) (i + 1) ∧ a'.2 20 = qro (M.2 20) c (qde d c) (i + 1)) ∧ o = g (nL (qmx d c (i + 1))) (nI (i + 1)) a') (fun (j23 : pm_M → Option pm_M) => ∀ K : pm_M, K = mu_L L 19 (qro (qro (M.2 19) c (qrw d c) (qS d)) c (qvi d c) (i + 1)) → ∃ a', ((∀ b, b ≠ 21 → a'.1 b = M8.1 b) ∧ (∀ b, b ≠ 19 → b ≠ 20 → b ≠ 22 → a'.2 b = M.2 b) ∧ a'.2 19 = qro (qro (M.2 19) c (qrw d c) (qS d)) c (qvi d c) (i + 1) ∧ a'.2 20 = qro (M.2 20) c (qde d c) (i + 1)) ∧ j23 K = g (nL (qmx d c (i + 1))) (nI (i + 1)) a') ?_ ?_
        · rintro K rfl
          refine ⟨mu_L (mu_L L 19 (qro (qro (M.2 19) c (qrw d c) (qS d)) c (qvi d c) (i + 1))) 20 (qro (M.2 20) c (qde d c) (i + 1)), ⟨l1, fun b hb hb2 hb3 => by rw [uL_0 _ _ _ _ hb2, uL_0 _ _ _ _ hb, l2 b hb hb2 hb3], by rw [uL_0 _ _ _ _ (by decide), uL_a], uL_a _ _ _⟩, ?_⟩
          show pm_bd _ _ = _
          rw [Net_timeOf (M := mu_L L 19 _) hCL hd hc hi5, q_bd, q_lt, sL_u, uL_a, uL_a L, uL_0 _ _ _ _ (by decide), l4, qro_at _ _ (qvi d c) (by omega), nI_toL (by omega), nL_mul, qro_set _ _ (qde d c) _ (x := nL (qvi d c i * qtm d c i)) rfl, q_lt, q_lt, qro_at _ _ _ (by omega), nL_max (by omega) (by omega), ← nI_succ]
          rfl
        · intro j23 hj
          by_cases h0 : qgc d c (qS d) = 0
          · have hz : lg_cmp (nL (qgc d c (qS d))) 0 ≤ 0 := by rw [h0]; decide
            rw [if_pos hz]
            refine hj L ?_
            rw [← qro_set (qro (M.2 19) c (qrw d c) (qS d)) c (qvi d c) i (x := nL (qvi d c i)) rfl]
            apply Prod.ext
            · rfl
            · funext b
              by_cases hb : b = 19
              · rw [hb, uL_a, l3]
                funext k
                unfold vp_updL
                by_cases hk : k = 5 * c + i
                · rw [if_pos hk, hk, ← l3, hLi]
                  unfold qvi
                  rw [qgc_0 _ h0 i hi, Nat.zero_div]
                · rw [if_neg hk]
              · rw [uL_0 _ _ _ _ hb]
          · have hz : ¬ lg_cmp (nL (qgc d c (qS d))) 0 ≤ 0 := by rw [cmp_le, show (0 : Int64) = nL 0 from rfl, nL_le_iff (by omega) (by omega)]; omega
            have hne : ¬ nL (qgc d c (qS d)) = 0 := by rw [nL_0 (by omega)]; exact h0
            rw [if_neg hz, if_pos hne, q_lt, sL_u, hLi, nL_div (by omega) (by omega) (by omega), l3, qro_set _ _ (qvi d c) _ (x := nL (qrw d c i / qgc d c (qS d))) rfl]
            exact hj _ rfl
      · rintro L ⟨l1, l2, l3, l4⟩ g
        have hCL : qC L d := qC_of h (fun b hb => by rw [l1 b (by omega), h8a b (by omega) (by omega)])
        have hml : qmx d c (qS d) ≤ 39858075000 := (qmx_le _).mpr (fun s _ => qde_le hd hc s)
        have hpl := hd.2.2.2.2.2.1 c
        rw [if_pos (by rw [hCL.1]; exact Int32.le_refl _)]
        refine q_jk (qZr d c M) (fun (j17 : Int32 → pm_M → Option pm_M) => qZr d c M (j17 (q2i (qft d c)) L)) ?_ ?_
        · show qZr d c M (if _ then _ else none)
          rw [if_pos q2i_01, q_lt, sI_u]
          refine ⟨_, rfl, ?_, ?_, ?_, ?_, ?_, ?_, ?_⟩
          · intro b hb hb2 hb3 hb4
            rw [uI_0 _ _ _ _ hb, l1 b hb4, h8a b hb2 hb3]
          · intro b hb hb2 hb3
            rw [uI_2, l2 b hb hb2 hb3]
          · rw [uI_0 _ _ _ _ (by decide), l1 17 (by decide), h8c]
          · rw [uI_0 _ _ _ _ (by decide), l1 18 (by decide), h8d]
          · rw [uI_a, l1 16 (by decide), h8a 16 (by decide) (by decide)]
          · rw [uI_2, l3, qro_qro]
          · rw [uI_2, l4]
        · intro j17 hj
          rw [q_jn, hCL.2.2.2.2.1]
          have hL18 : L.1 18 c = q2i (qgo d c) := by rw [l1 18 (by decide), h8d, upd_at]
          by_cases hp : qP d c = 0
          · rw [if_pos (by rw [hp]; rfl)]
            rw [q2i_t (show qft d c from Or.inl hp)] at hj
            exact hj
          · rw [if_neg (by rw [q0, nI_inj (by omega) (by omega)]; exact hp), hL18]
            by_cases hg : qgo d c
            · rw [q2i_t hg, if_neg (by decide)]
              by_cases hm : qmx d c (qS d) ≤ 20
              · rw [if_neg (by rw [cmp_gt, show (20 : Int64) = nL 20 from rfl, nL_lt_iff (by omega) (by omega)]; omega)]
                rw [q2i_t (show qft d c from Or.inr ⟨hg, (qmx_le _).mp hm⟩)] at hj
                exact hj
              · rw [if_pos (by rw [cmp_gt, show (20 : Int64) = nL 20 from rfl, nL_lt_iff (by omega) (by omega)]; omega)]
                rw [q2i_f (show ¬ qft d c by rintro (q | q); exact hp q; exact hm ((qmx_le _).mpr q.2))] at hj
                exact hj
            · rw [q2i_f hg, if_pos rfl]
              rw [q2i_f (show ¬ qft d c by rintro (q | q); exact hp q; exact hg q.1)] at hj
              exact hj
  · intro j5 hj
    rw [q_jn, hC4.2.2.2.1]
    cases hx : qH d c with
    | zero =>
      rw [if_pos (show hI 0 = -1 from rfl)]
      rw [q2i_f (show ¬ qgo d c by rintro ⟨y, h1, -⟩; omega)] at hj
      exact hj
    | succ y =>
      have hrt := qset_lt (fun s => qRp d c s y)
      rw [if_neg (show ¬ hI (y + 1) = -1 from nI_m1 (by omega)), Tours_findReturning hd hC4 hc hx, q_bd, h4c, upd_at, bi_not _ (qrc_lt d c) _ hrt]
      have hlt := bi_lt_sub _ (qrc_lt d c) _ hrt
      by_cases hg : qgo d c
      · rw [(qgo_ret hd hc hx).mpr hg, if_neg (by decide)]
        rw [q2i_t hg] at hj
        exact hj
      · rw [if_pos (by rw [q0, nI_inj (by omega) (by omega)]; exact fun q => hg ((qgo_ret hd hc hx).mp q))]
        rw [q2i_f hg] at hj
        exact hj
