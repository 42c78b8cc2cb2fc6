/-! IN TRUTH: who comes -/
def xC0 (n0 : Nat) (M : pm_M) (X : qXs) : Prop := (∀ s, s < 5 → M.1 32 s = nI (xQ X s).length) ∧ (∀ s i, s < 5 → i < (xQ X s).length → M.1 31 (8 * s + i) = nI ((xQ X s).getD i 0)) ∧ (∀ s x, s < 5 → x ∈ xQ X s → M.1 34 x = nI (xR X x) ∧ M.1 33 x = nI s) ∧ (∀ k, k < 10 → M.1 35 k = xP X k) ∧ M.1 30 2 = nI n0
def xM0 (M : pm_M) (X : qXs) : Prop := (∀ s, s < 5 → M.1 66 s = nI (xQ X s).length) ∧ (∀ s i, s < 5 → i < (xQ X s).length → M.1 67 (8 * s + i) = nI ((xQ X s).getD i 0)) ∧ (∀ s x, s < 5 → x ∈ xQ X s → M.1 68 x = nI (xR X x)) ∧ ∀ k, k < 10 → M.1 69 k = xP X k
def xadd (d : qD) (x t : Nat) (X : qXs) : qXs := (lupd (xQ X) t (xQ X t ++ [x]), fupd (xR X) x (qtm d (xcl (qP d 0) x) t), xL X, xP X)
theorem lgB (l : List Nat) (y : Nat) : (l ++ [y]).getD l.length 0 = y := by
  rw [List.getD_eq_getElem?_getD, List.getElem?_append_right (Nat.le_refl _), Nat.sub_self]
  rfl
theorem Truth_arrive {d : qD} {M : pm_M} (hd : qOK d) (hC : qC M d) {X : qXs} (h : xC0 (qP d 0) M X) {x t : Nat} (hx : x < 8) (ht : t < qS d) (hno : ∀ u, u < 5 → x ∉ xQ X u) (hl : ∀ u, u < 5 → (xQ X u).length ≤ 8) (hlt : (xQ X t).length < 8) : ∃ M', sTruth_arrive (nI x) (nI t) M = some M' ∧ xC0 (qP d 0) M' (xadd d x t X) ∧ (∀ b, b ∉ [31, 32, 33, 34] → M'.1 b = M.1 b) ∧ M'.2 = M.2 ∧ ∀ y, y ≠ x → M'.1 33 y = M.1 33 y := by
  obtain ⟨c1, c2, c3, c4, c5⟩ := h
  have hS := hd.1
  have hP := hd.2.2.2.2.2.1 0
  have ht5 : t < 5 := by omega
  have j8 : pm_in (nI x) 8 := by rw [nI_in_iff (by omega)]; exact hx
  have hcl := xcl_2 (qP d 0) x
  have htl := qtm_le hd (xcl (qP d 0) x) t
  unfold sTruth_arrive
  rw [Net_hasStation hd hC, q_bd, b2i_t (by rw [nI_in_iff (by omega)]; exact ht), if_pos (by decide), Truth_standLast ht5 hlt (c1 t ht5), q_bv]
  simp only [eq_true j8, if_true, nI_cl x (show x < 2 ^ 31 by omega)]
  rw [q_lt]
  generalize hN : mu_I (mu_I M 31 (upd (M.1 31) (8 * t + (xQ X t).length) (nI x))) 32 (upd (M.1 32) t (nI ((xQ X t).length + 1))) = N
  have n1 : ∀ b, b ≠ 31 → b ≠ 32 → N.1 b = M.1 b := fun b hb hb2 => by rw [← hN, uI_0 _ _ _ _ hb2, uI_0 _ _ _ _ hb]
  have n31 : N.1 31 = upd (M.1 31) (8 * t + (xQ X t).length) (nI x) := by rw [← hN, uI_0 _ _ _ _ (by decide), uI_a]
  have n32 : N.1 32 = upd (M.1 32) t (nI ((xQ X t).length + 1)) := by rw [← hN, uI_a]
  have n2 : N.2 = M.2 := by rw [← hN]; rfl
  clear hN
  have hCN : qC (pm_sI N 33 x (nI t)) d := qC_of hC (fun b hb => by rw [sI_1, if_neg (by omega), n1 b (by omega) (by omega)])
  rw [Truth_classOf (n0 := qP d 0) (by rw [sI_1, if_neg (by decide), n1 30 (by decide) (by decide)]; exact c5) (by omega) (by omega), q_bd, Net_timeOf hCN hd hcl ht5, q_bd, q_lt]
  have hQ : xQ (xadd d x t X) = lupd (xQ X) t (xQ X t ++ [x]) := rfl
  have hRr : xR (xadd d x t X) = fupd (xR X) x (qtm d (xcl (qP d 0) x) t) := rfl
  have o : ∀ v w b, b ≠ 33 → b ≠ 34 → (pm_sI (pm_sI N 33 x v) 34 x w).1 b = N.1 b := fun v w b hb hb2 => by rw [sI_1, if_neg hb2, sI_1, if_neg hb]
  refine ⟨_, rfl, ⟨fun s hs => ?_, fun s i hs hi => ?_, fun s y hs hy => ?_, fun k hk => ?_, ?_⟩, fun b hb => ?_, n2, fun y hy => ?_⟩
  · rw [o _ _ 32 (by decide) (by decide), n32, hQ]
    unfold upd
    by_cases q : s = t
    · rw [if_pos q, q, lupd_at, List.length_append]
      rfl
    · rw [if_neg q, lupd_ne _ _ q]
      exact c1 s hs
  · rw [hQ] at hi ⊢
    rw [o _ _ 31 (by decide) (by decide), n31]
    unfold upd
    by_cases q : s = t
    · rw [q, lupd_at] at hi ⊢
      rw [List.length_append] at hi
      have hi' : i < (xQ X t).length + 1 := hi
      by_cases u : i = (xQ X t).length
      · rw [if_pos (by omega), u, lgB]
      · rw [if_neg (by omega), lgA _ _ (by omega)]
        exact c2 t i ht5 (by omega)
    · rw [lupd_ne _ _ q] at hi ⊢
      have l1 := hl s hs
      rw [if_neg (by omega)]
      exact c2 s i hs hi
  · rw [hQ] at hy
    rw [hRr]
    by_cases e : y = x
    · subst e
      have hst : s = t := by
        apply Classical.byContradiction
        intro q
        rw [lupd_ne _ _ q] at hy
        exact hno s hs hy
      rw [sI_1, if_pos rfl, upd_at, fupd_at, sI_1, if_neg (by decide), sI_1, if_pos rfl, upd_at, hst]
      exact ⟨rfl, rfl⟩
    · have hy2 : y ∈ xQ X s := by
        by_cases q : s = t
        · rw [q, lupd_at] at hy
          rcases List.mem_append.mp hy with u | u
          · rw [q]; exact u
          · rw [List.mem_singleton] at u
            exact absurd u e
        · rwa [lupd_ne _ _ q] at hy
      obtain ⟨g1, g2⟩ := c3 s y hs hy2
      constructor
      · rw [sI_1, if_pos rfl, fupd_ne _ _ e]
        unfold upd
        rw [if_neg e, sI_1, if_neg (by decide), n1 34 (by decide) (by decide)]
        exact g1
      · rw [sI_1, if_neg (by decide), sI_1, if_pos rfl]
        unfold upd
        rw [if_neg e, n1 33 (by decide) (by decide)]
        exact g2
  · rw [o _ _ 35 (by decide) (by decide), n1 35 (by decide) (by decide)]
    exact c4 k hk
  · rw [o _ _ 30 (by decide) (by decide), n1 30 (by decide) (by decide)]
    exact c5
  · simp only [List.mem_cons, List.not_mem_nil, or_false, not_or] at hb
    rw [o _ _ b (by omega) (by omega), n1 b (by omega) (by omega)]
  · rw [sI_1, if_neg (by decide), sI_1, if_pos rfl]
    unfold upd
    rw [if_neg hy, n1 33 (by decide) (by decide)]
theorem R_comes {d : qD} {M : pm_M} (hd : qOK d) (hR : qR M d) {X : qXs} (h : xM0 M X) {x t : Nat} (hx : x < 8) (ht : t < qS d) (hno : ∀ u, u < 5 → x ∉ xQ X u) (hl : ∀ u, u < 5 → (xQ X u).length ≤ 8) (hlt : (xQ X t).length < 8) : ∃ M', sR_comes (nI x) (nI t) M = some M' ∧ xM0 M' (xadd d x t X) ∧ (∀ b, b ∉ [66, 67, 68] → M'.1 b = M.1 b) ∧ M'.2 = M.2 := by
  obtain ⟨c1, c2, c3, c4⟩ := h
  have hS := hd.1
  have hP := hd.2.2.2.2.2.1 0
  have ht5 : t < 5 := by omega
  have j8 : pm_in (nI x) 8 := by rw [nI_in_iff (by omega)]; exact hx
  have j5 : pm_in (nI t) 5 := by rw [nI_in_iff (by omega)]; exact ht5
  have hcl := xcl_2 (qP d 0) x
  have htl := qtm_le hd (xcl (qP d 0) x) t
  have j40 : pm_in (nI (8 * t + (xQ X t).length)) 40 := by rw [nI_in_iff (by omega)]; omega
  have e66 : (pm_sI M 67 (8 * t + (xQ X t).length) (nI x)).1 66 t = nI (xQ X t).length := by rw [sI_1, if_neg (by decide)]; exact c1 t ht5
  unfold sR_comes
  simp only [eq_true j5, if_true, nI_cl t (show t < 2 ^ 31 by omega)]
  rw [c1 t ht5, q8s', if_pos j40, nI_cl (8 * t + (xQ X t).length) (by omega), q_lt, q_lt, e66, ← nI_succ]
  generalize hN : pm_sI (pm_sI M 67 (8 * t + (xQ X t).length) (nI x)) 66 t (nI ((xQ X t).length + 1)) = N
  have n1 : ∀ b, b ≠ 66 → b ≠ 67 → N.1 b = M.1 b := fun b hb hb2 => by rw [← hN, sI_1, if_neg hb, sI_1, if_neg hb2]
  have n67 : N.1 67 = upd (M.1 67) (8 * t + (xQ X t).length) (nI x) := by rw [← hN, sI_1, if_neg (by decide), sI_1, if_pos rfl]
  have n66 : N.1 66 = upd (M.1 66) t (nI ((xQ X t).length + 1)) := by rw [← hN, sI_1, if_pos rfl, sI_1, if_neg (by decide)]
  have n2 : N.2 = M.2 := by rw [← hN]; rfl
  clear hN e66
  have hRN : qR N d := qR_of hR (by rw [n1 49 (by decide) (by decide)]) (fun b h1 h2 => n1 b (by omega) (by omega))
  rw [R_classOf hRN hd (by omega), q_bd, R_timeOf hRN hd hcl ht5, q_bd, if_pos j8, nI_cl x (by omega), q_lt]
  have hQ : xQ (xadd d x t X) = lupd (xQ X) t (xQ X t ++ [x]) := rfl
  have hRr : xR (xadd d x t X) = fupd (xR X) x (qtm d (xcl (qP d 0) x) t) := rfl
  refine ⟨_, rfl, ⟨fun s hs => ?_, fun s i hs hi => ?_, fun s y hs hy => ?_, fun k hk => ?_⟩, fun b hb => ?_, n2⟩
  · rw [sI_1, if_neg (by decide), n66, hQ]
    unfold upd
    by_cases q : s = t
    · rw [if_pos q, q, lupd_at, List.length_append]
      rfl
    · rw [if_neg q, lupd_ne _ _ q]
      exact c1 s hs
  · rw [hQ] at hi ⊢
    rw [sI_1, if_neg (by decide), n67]
    unfold upd
    by_cases q : s = t
    · rw [q, lupd_at] at hi ⊢
      rw [List.length_append] at hi
      have hi' : i < (xQ X t).length + 1 := hi
      by_cases u : i = (xQ X t).length
      · rw [if_pos (by omega), u, lgB]
      · rw [if_neg (by omega), lgA _ _ (by omega)]
        exact c2 t i ht5 (by omega)
    · rw [lupd_ne _ _ q] at hi ⊢
      have l1 := hl s hs
      rw [if_neg (by omega)]
      exact c2 s i hs hi
  · rw [hQ] at hy
    rw [hRr, sI_1, if_pos rfl]
    by_cases e : y = x
    · rw [e, upd_at, fupd_at]
    · have hy2 : y ∈ xQ X s := by
        by_cases q : s = t
        · rw [q, lupd_at] at hy
          rcases List.mem_append.mp hy with u | u
          · rw [q]; exact u
          · rw [List.mem_singleton] at u
            exact absurd u e
        · rwa [lupd_ne _ _ q] at hy
      rw [fupd_ne _ _ e]
      unfold upd
      rw [if_neg e, n1 68 (by decide) (by decide)]
      exact c3 s y hs hy2
  · rw [sI_1, if_neg (by decide), n1 69 (by decide) (by decide)]
    exact c4 k hk
  · simp only [List.mem_cons, List.not_mem_nil, or_false, not_or] at hb
    rw [sI_1, if_neg (by omega), n1 b (by omega) (by omega)]
/-! the turn, as numbers -/
def xall (d : qD) : Nat → qXs → qXs
  | 0, X => X
  | s + 1, X => xsv (qP d 0) s (qK d s) (xall d s X)
def xgo (d : qD) (sd : Int32) (y : Nat × Nat) : Nat := qgl d (xcl (qP d 0) y.1) y.2 (qdr sd (qwt d (xcl (qP d 0) y.1) y.2))
def xarr (d : qD) : List (Nat × Nat) → Int32 → qXs → Int32 × qXs
  | [], sd, X => (sd, X)
  | y :: l, sd, X => xarr d l (qsd sd) (xadd d y.1 (xgo d sd y) (xQ X, xR X, l, xP X))
/-- one comes: what is so stays so -/
theorem xadd_V {d : qD} (hd : qOK d) {X : qXs} {y : Nat × Nat} {l : List (Nat × Nat)} (hL : xL X = y :: l) (h : xV d X) {t : Nat} (hin : qin d (xcl (qP d 0) y.1) t) : xV d (xadd d y.1 t (xQ X, xR X, l, xP X)) := by
  obtain ⟨v1, v2, v3, v4⟩ := id h
  have hcl := xcl_2 (qP d 0) y.1
  have htS := qin_S hd hcl hin
  have ht5 : t < 5 := by have := hd.1; omega
  have hy := v2 y (by rw [hL]; exact List.mem_cons_self)
  have hne : ∀ u z, u < 5 → z ∈ xQ X u → z ≠ y.1 := fun u z hu hz q => xuniL h hu hz y (by rw [hL]; exact List.mem_cons_self) q.symm
  refine ⟨fun s z hs hz => ?_, fun z hz => v2 z (by rw [hL]; exact List.mem_cons_of_mem _ hz), fun z => ?_, ?_⟩
  · have hz' : z ∈ lupd (xQ X) t (xQ X t ++ [y.1]) s := hz
    show z < 8 ∧ qin d _ s ∧ 1 ≤ fupd (xR X) y.1 (qtm d (xcl (qP d 0) y.1) t) z ∧ fupd (xR X) y.1 (qtm d (xcl (qP d 0) y.1) t) z ≤ 9
    by_cases e : z = y.1
    · have hst : s = t := by
        apply Classical.byContradiction
        intro q
        rw [lupd_ne _ _ q] at hz'
        exact hne s z hs hz' e
      rw [e, fupd_at, hst]
      exact ⟨hy.1, hin, qtm_1 hd hcl htS, qtm_le hd _ _⟩
    · have hz2 : z ∈ xQ X s := by
        by_cases q : s = t
        · rw [q, lupd_at] at hz'
          rcases List.mem_append.mp hz' with u | u
          · rw [q]; exact u
          · rw [List.mem_singleton] at u
            exact absurd u e
        · rwa [lupd_ne _ _ q] at hz'
      rw [fupd_ne _ _ e]
      exact v1 s z hs hz2
  · show qsm (fun s => (lupd (xQ X) t (xQ X t ++ [y.1]) s).count z) 5 + (l.map Prod.fst).count z = _
    have e := qsm_lu (fun l => l.count z) (xQ X) (xQ X t ++ [y.1]) ht5
    rw [List.count_append] at e
    have v := v3 z
    rw [hL, List.map_cons, List.count_cons] at v
    have e1 : [y.1].count z = if (y.1 == z) = true then 1 else 0 := by rw [List.count_cons, List.count_nil, Nat.zero_add]
    rw [e1] at e
    omega
  · show qsm (fun s => (lupd (xQ X) t (xQ X t ++ [y.1]) s).length) 5 + l.length = _
    have e := qsm_lu (fun l => l.length) (xQ X) (xQ X t ++ [y.1]) ht5
    rw [List.length_append] at e
    rw [hL] at v4
    have : [y.1].length = 1 := rfl
    have : (y :: l).length = l.length + 1 := rfl
    omega
