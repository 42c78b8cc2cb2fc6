/-! IN TRUTH: serving a station, the class's side -/
def xwl (n0 s : Nat) : Nat → Nat → qXs → qXs
  | 0, _, X => X
  | k + 1, i, X => if (xwk n0 s i X).1 = true then xwl n0 s k i (xwk n0 s i X).2 else xwl n0 s k (i + 1) (xwk n0 s i X).2
theorem xwl_s (n0 s k i : Nat) (X : qXs) : xwl n0 s (k + 1) i X = if (xwk n0 s i X).1 = true then xwl n0 s k i (xwk n0 s i X).2 else xwl n0 s k (i + 1) (xwk n0 s i X).2 := rfl
theorem lgA (l : List Nat) (y : Nat) {j : Nat} (h : j < l.length) : (l ++ [y]).getD j 0 = l.getD j 0 := by
  rw [List.getD_eq_getElem?_getD, List.getD_eq_getElem?_getD, List.getElem?_append_left h]
def xrot (s : Nat) (X : qXs) : qXs := (lupd (xQ X) s ((xQ X s).eraseIdx 0 ++ [(xQ X s).getD 0 0]), xR X, xL X, xP X)
def xsv (n0 s kind : Nat) (X : qXs) : qXs := if (xQ X s).length = 0 then X else if kind = 0 then (xwk n0 s 0 X).2 else if kind = 1 then (xwk n0 s ((xQ X s).length - 1) X).2 else if kind = 2 then (if (xwk n0 s 0 X).1 = true then (xwk n0 s 0 X).2 else xrot s (xwk n0 s 0 X).2) else xwl n0 s (xQ X s).length 0 X
theorem xwk_len {n0 s i : Nat} {X : qXs} (hi : i < (xQ X s).length) : (xQ (xwk n0 s i X).2 s).length = if (xwk n0 s i X).1 = true then (xQ X s).length - 1 else (xQ X s).length := by
  unfold xwk
  by_cases z : xR X ((xQ X s).getD i 0) ≤ 1
  · rw [if_pos z, if_pos rfl]
    show (lupd (xQ X) s ((xQ X s).eraseIdx i) s).length = _
    rw [lupd_at, len_er hi]
  · rw [if_neg z, if_neg (show ¬ (false = true) by decide)]
    rfl
theorem xwk_f {n0 s i : Nat} {X : qXs} (h : ¬ (xwk n0 s i X).1 = true) : xQ (xwk n0 s i X).2 = xQ X := by
  unfold xwk at h ⊢
  by_cases z : xR X ((xQ X s).getD i 0) ≤ 1
  · rw [if_pos z] at h
    exact absurd rfl h
  · rw [if_neg z]
    rfl
theorem xrot_V {d : qD} {X : qXs} (h : xV d X) {s : Nat} (hs : s < 5) (hi : 0 < (xQ X s).length) : xV d (xrot s X) := by
  obtain ⟨v1, v2, v3, v4⟩ := h
  have hx := getD_mem hi
  have c1 := fun x => count_er x (xQ X s) 0 hi
  have hm : ∀ t y, y ∈ lupd (xQ X) s ((xQ X s).eraseIdx 0 ++ [(xQ X s).getD 0 0]) t → y ∈ xQ X t := by
    intro t y hy
    by_cases q : t = s
    · rw [q, lupd_at] at hy
      rw [q]
      rcases List.mem_append.mp hy with u | u
      · exact mem_er u
      · rw [List.mem_singleton] at u
        rw [u]
        exact hx
    · rwa [lupd_ne _ _ q] at hy
  refine ⟨fun t y ht hy => v1 t y ht (hm t y hy), v2, fun y => ?_, ?_⟩
  · show qsm (fun t => (lupd (xQ X) s ((xQ X s).eraseIdx 0 ++ [(xQ X s).getD 0 0]) t).count y) 5 + _ = _
    have e := qsm_lu (fun l => l.count y) (xQ X) ((xQ X s).eraseIdx 0 ++ [(xQ X s).getD 0 0]) hs
    have k := c1 y
    have e1 : [(xQ X s).getD 0 0].count y = if (xQ X s).getD 0 0 = y then 1 else 0 := by
      rw [List.count_cons]
      by_cases q : (xQ X s).getD 0 0 = y
      · rw [if_pos (by rw [q]; exact beq_self_eq_true y), if_pos q]; rfl
      · rw [if_neg (by simpa using q), if_neg q]; rfl
    rw [List.count_append, e1] at e
    have v := v3 y
    show _ + ((xL X).map Prod.fst).count y = _
    omega
  · show qsm (fun t => (lupd (xQ X) s ((xQ X s).eraseIdx 0 ++ [(xQ X s).getD 0 0]) t).length) 5 + (xL X).length = _
    have e := qsm_lu (fun l => l.length) (xQ X) ((xQ X s).eraseIdx 0 ++ [(xQ X s).getD 0 0]) hs
    rw [List.length_append, len_er hi] at e
    have : [(xQ X s).getD 0 0].length = 1 := rfl
    omega
theorem xwl_V {d : qD} {s : Nat} (hs : s < 5) : ∀ k i X, xV d X → i + k ≤ (xQ X s).length → xV d (xwl (qP d 0) s k i X)
  | 0, _, X, h, _ => h
  | k + 1, i, X, h, hk => by
    have hi : i < (xQ X s).length := by omega
    have hv := xwk_V h hs hi
    have hl := xwk_len (n0 := qP d 0) hi
    unfold xwl
    by_cases z : (xwk (qP d 0) s i X).1 = true
    · rw [if_pos z] at hl ⊢
      exact xwl_V hs k i _ hv (by omega)
    · rw [if_neg z] at hl ⊢
      exact xwl_V hs k (i + 1) _ hv (by omega)
theorem xsv_V {d : qD} {X : qXs} (h : xV d X) {s : Nat} (hs : s < 5) (kind : Nat) : xV d (xsv (qP d 0) s kind X) := by
  unfold xsv
  by_cases z : (xQ X s).length = 0
  · rw [if_pos z]; exact h
  · rw [if_neg z]
    by_cases k0 : kind = 0
    · rw [if_pos k0]; exact xwk_V h hs (by omega)
    · rw [if_neg k0]
      by_cases k1 : kind = 1
      · rw [if_pos k1]; exact xwk_V h hs (by omega)
      · rw [if_neg k1]
        by_cases k2 : kind = 2
        · rw [if_pos k2]
          have hv := xwk_V h hs (show 0 < (xQ X s).length by omega)
          by_cases b : (xwk (qP d 0) s 0 X).1 = true
          · rw [if_pos b]; exact hv
          · rw [if_neg b]
            exact xrot_V hv hs (by rw [xwk_f b]; omega)
        · rw [if_neg k2]
          exact xwl_V hs _ _ X h (by omega)
theorem Truth_standLast {M : pm_M} {s n : Nat} (hs : s < 5) (hn : n < 8) (h32 : M.1 32 s = nI n) (v : Int32) : sTruth_standLast v (nI s) M = some (mu_I (mu_I M 31 (upd (M.1 31) (8 * s + n) v)) 32 (upd (M.1 32) s (nI (n + 1)))) := by
  have hin5 : pm_in (nI s) 5 := by rw [nI_in_iff (by omega)]; omega
  have hcs : (nI s).toNatClampNeg = s := nI_cl s (by omega)
  have j1 : pm_in (nI (8 * s + n)) 40 := by rw [nI_in_iff (by omega)]; omega
  have k1 : (nI (8 * s + n)).toNatClampNeg = 8 * s + n := nI_cl _ (by omega)
  unfold sTruth_standLast
  simp only [eq_true hin5, hcs, if_true, h32, q8s, eq_true j1, k1]
  rw [if_pos (by rw [show (8 : Int32) = nI 8 from rfl, nI_lt_iff (by omega) (by omega)]; exact hn), q_lt, q_lt, sI_u, sI_u, uI_0 _ _ _ _ (by decide), h32, ← nI_succ]
theorem Truth_serve {d : qD} {M : pm_M} (hd : qOK d) {X : qXs} (h : xC (qP d 0) M X) (hv : xV d X) {s kind : Nat} (hs : s < 5) (hk : kind ≤ 3) : ∃ M', sTruth_serve (nI s) (nI kind) M = some M' ∧ xC (qP d 0) M' (xsv (qP d 0) s kind X) ∧ xfC M M' := by
  obtain ⟨c1, c2, c3, c4, c5, c6, c7, c8⟩ := id h
  have hl8 := xlen hd hv hs
  have hin5 : pm_in (nI s) 5 := by rw [nI_in_iff (by omega)]; omega
  have hcs : (nI s).toNatClampNeg = s := nI_cl s (by omega)
  unfold sTruth_serve xsv
  rw [if_pos hin5, hcs, c1 s hs, q_lt]
  by_cases z : (xQ X s).length = 0
  · rw [if_pos z, z, if_neg (by decide)]
    exact ⟨M, rfl, h, xfC_rf⟩
  · rw [if_neg z, if_pos (by rw [q0, nI_inj (by omega) (by omega)]; exact z)]
    rcases (show kind = 0 ∨ kind = 1 ∨ kind = 2 ∨ kind = 3 by omega) with rfl | rfl | rfl | rfl
    · obtain ⟨M', e, k1, k2⟩ := Truth_work hd h hv hs (show 0 < (xQ X s).length by omega)
      rw [if_pos (show nI 0 = Int32.ofNat 0 from rfl), if_pos (show (0 : Nat) = 0 from rfl), show (0 : Int32) = nI 0 from rfl, e, q_bd]
      exact ⟨M', rfl, k1, k2⟩
    · obtain ⟨M', e, k1, k2⟩ := Truth_work hd h hv hs (show (xQ X s).length - 1 < (xQ X s).length by omega)
      rw [if_neg (show ¬ nI 1 = Int32.ofNat 0 by decide), if_pos (show nI 1 = Int32.ofNat 1 from rfl), if_neg (show ¬ (1 : Nat) = 0 by decide), if_pos (show (1 : Nat) = 1 from rfl), q1, nI_sub (by omega), e, q_bd]
      exact ⟨M', rfl, k1, k2⟩
    · obtain ⟨M', e, k1, k2⟩ := Truth_work hd h hv hs (show 0 < (xQ X s).length by omega)
      have j1 : pm_in (nI (8 * s)) 40 := by rw [nI_in_iff (by omega)]; omega
      have e8 : nI s * (8 : Int32) = nI (8 * s) := by rw [show (8 : Int32) = nI 8 from rfl, nI_mul, Nat.mul_comm]
      have hh := c2 s 0 hs (by omega)
      rw [Nat.add_zero] at hh
      rw [if_neg (show ¬ nI 2 = Int32.ofNat 0 by decide), if_neg (show ¬ nI 2 = Int32.ofNat 1 by decide), if_pos (show nI 2 = Int32.ofNat 2 from rfl), if_neg (show ¬ (2 : Nat) = 0 by decide), if_neg (show ¬ (2 : Nat) = 1 by decide), if_pos (show (2 : Nat) = 2 from rfl), e8, if_pos j1, nI_cl _ (by omega), hh, q_lt, show (0 : Int32) = nI 0 from rfl, e, q_bd]
      by_cases b : (xwk (qP d 0) s 0 X).1 = true
      · rw [if_pos b, if_pos b, if_pos (by decide)]
        exact ⟨M', rfl, k1, k2⟩
      · rw [if_neg b, if_neg b, if_neg (fun q => q rfl)]
        have hq := xwk_f b
        generalize (xwk (qP d 0) s 0 X).2 = Y at k1 hq
        obtain ⟨d1, d2, d3, d4, d5, d6, d7, d8⟩ := k1
        rw [hq] at d1 d2 d3
        obtain ⟨M3, e3, t1, t2, t3, t4, t5⟩ := Truth_takeOut (M := M') (f := fun j => (xQ X s).getD j 0) hs (show 0 < (xQ X s).length by omega) (by omega) (d1 s hs) (fun j hj => d2 s j hs hj)
        rw [e3, q_bv, Truth_standLast (n := (xQ X s).length - 1) hs (by omega) (by rw [t3, upd_at]), q_bv]
        refine ⟨_, rfl, ?_, xfC_tr k2 ?_⟩
        · have o : ∀ f g b, b ≠ 31 → b ≠ 32 → (mu_I (mu_I M3 31 f) 32 g).1 b = M'.1 b := fun f g b hb hb2 => by rw [uI_0 _ _ _ _ hb2, uI_0 _ _ _ _ hb, t1 b hb hb2]
          have hmem : ∀ t y, y ∈ lupd (xQ X) s ((xQ X s).eraseIdx 0 ++ [(xQ X s).getD 0 0]) t → y ∈ xQ X t := by
            intro t y hy
            by_cases q : t = s
            · rw [q, lupd_at] at hy
              rw [q]
              rcases List.mem_append.mp hy with u | u
              · exact mem_er u
              · rw [List.mem_singleton] at u
                rw [u]
                exact getD_mem (by omega)
            · rwa [lupd_ne _ _ q] at hy
          have elen : ((xQ X s).eraseIdx 0 ++ [(xQ X s).getD 0 0]).length = (xQ X s).length := by
            rw [List.length_append, len_er (by omega)]
            show _ + 1 = _
            omega
          refine ⟨fun t ht => ?_, fun t j ht hj => ?_, fun t y ht hm => ?_, fun k hk => ?_, ?_, fun j hj => ?_, fun y hy => ?_, ?_⟩
          · rw [uI_a]
            show upd (M3.1 32) s _ t = nI (xQ (xrot s Y) t).length
            have : xQ (xrot s Y) t = lupd (xQ X) s ((xQ X s).eraseIdx 0 ++ [(xQ X s).getD 0 0]) t := by unfold xrot; rw [hq]; rfl
            rw [this]
            unfold upd
            by_cases q : t = s
            · rw [if_pos q, q, lupd_at, elen]
              congr 1
              omega
            · rw [if_neg q, lupd_ne _ _ q, t3]
              unfold upd
              rw [if_neg q]
              exact d1 t ht
          · have : xQ (xrot s Y) t = lupd (xQ X) s ((xQ X s).eraseIdx 0 ++ [(xQ X s).getD 0 0]) t := by unfold xrot; rw [hq]; rfl
            rw [this] at hj ⊢
            rw [uI_0 _ _ _ _ (by decide), uI_a]
            unfold upd
            by_cases q : t = s
            · rw [q, lupd_at] at hj ⊢
              rw [elen] at hj
              have lw : ∀ l : List Nat, ∀ y : Nat, (l ++ [y]).getD l.length 0 = y := fun l y => by rw [List.getD_eq_getElem?_getD, List.getElem?_append_right (Nat.le_refl _), Nat.sub_self]; rfl
              by_cases u : j = (xQ X s).length - 1
              · rw [if_pos (by omega)]
                congr 1
                have lx := lw ((xQ X s).eraseIdx 0) ((xQ X s).getD 0 0)
                rw [len_er (by omega), ← u] at lx
                exact lx.symm
              · rw [if_neg (by omega), t4 j (by omega), if_neg (Nat.not_lt_zero j), lgA _ _ (by rw [len_er (by omega)]; omega), getD_er, if_neg (Nat.not_lt_zero j)]
            · rw [lupd_ne _ _ q] at hj ⊢
              have := xlen hd hv ht
              rw [if_neg (by omega), t5 _ (by omega)]
              exact d2 t j ht hj
          · have : xQ (xrot s Y) t = lupd (xQ X) s ((xQ X s).eraseIdx 0 ++ [(xQ X s).getD 0 0]) t := by unfold xrot; rw [hq]; rfl
            rw [this] at hm
            rw [o _ _ 34 (by decide) (by decide), o _ _ 33 (by decide) (by decide)]
            exact d3 t y ht (hmem t y hm)
          · rw [o _ _ 35 (by decide) (by decide)]
            exact d4 k hk
          · rw [o _ _ 30 (by decide) (by decide)]
            exact d5
          · rw [o _ _ 36 (by decide) (by decide)]
            exact d6 j hj
          · rw [o _ _ 33 (by decide) (by decide)]
            exact d7 y hy
          · rw [o _ _ 30 (by decide) (by decide)]
            exact d8
        · refine ⟨fun b hb => ?_, fun k _ => ?_, t2⟩
          · simp only [List.mem_cons, List.not_mem_nil, or_false, not_or] at hb
            rw [uI_0 _ _ _ _ (by omega), uI_0 _ _ _ _ (by omega), t1 b (by omega) (by omega)]
          · rw [uI_0 _ _ _ _ (by decide), uI_0 _ _ _ _ (by decide), t1 30 (by decide) (by decide)]
    · rw [if_neg (show ¬ nI 3 = Int32.ofNat 0 by decide), if_neg (show ¬ nI 3 = Int32.ofNat 1 by decide), if_neg (show ¬ nI 3 = Int32.ofNat 2 by decide), if_neg (show ¬ (3 : Nat) = 0 by decide), if_neg (show ¬ (3 : Nat) = 1 by decide), if_neg (show ¬ (3 : Nat) = 2 by decide)]
      generalize hn : (xQ X s).length = n at *
      refine q_fz (fun o => ∃ M', o = some M' ∧ xC (qP d 0) M' (xwl (qP d 0) s n 0 X) ∧ xfC M M') (fun k (a : Nat × pm_M) (g : Int32 → Int32 → pm_M → Option pm_M) => g (nI a.1) (nI k) a.2) (fun k a => ∃ Y, xC (qP d 0) a.2 Y ∧ xV d Y ∧ xfC M a.2 ∧ a.1 + (n - k) = (xQ Y s).length ∧ k ≤ n ∧ xwl (qP d 0) s (n - k) a.1 Y = xwl (qP d 0) s n 0 X) n ?_ ?_ (n := 1000000) (by omega) (a := (0, M)) ⟨X, h, hv, xfC_rf, by rw [hn]; show 0 + (n - 0) = n; omega, Nat.zero_le _, rfl⟩
      · rintro k ⟨i, N⟩ hk ⟨Y, y1, y2, y3, y4, y5, y6⟩ g
        have y4' : i + (n - k) = (xQ Y s).length := y4
        have hi : i < (xQ Y s).length := by omega
        obtain ⟨N', e, k1, k2⟩ := Truth_work hd y1 y2 hs hi
        have hl := xwk_len (n0 := qP d 0) hi
        have hv' := xwk_V y2 hs hi
        have y6' : xwl (qP d 0) s (n - k) i Y = xwl (qP d 0) s n 0 X := y6
        rw [show n - k = (n - (k + 1)) + 1 by omega, xwl_s] at y6'
        have y3' : xfC M N := y3
        show ∃ a', _ ∧ (if nI n ≤ nI k then some N else (pm_bd (sTruth_work (nI s) (nI i) N) fun v16 M15 => if ¬ v16 = 0 then (pm_lt ((nI k + (1 : Int32))) fun x17 => g (nI i) x17 M15) else (pm_lt ((nI i + (1 : Int32))) fun x18 => pm_lt ((nI k + (1 : Int32))) fun x19 => g x18 x19 M15))) = _
        rw [if_neg (by rw [nI_le_iff (by omega) (by omega)]; omega), e, q_bd]
        by_cases b : (xwk (qP d 0) s i Y).1 = true
        · rw [if_pos b] at hl y6'
          rw [if_pos b, if_pos (by decide), q_lt, ← nI_succ]
          refine ⟨(i, N'), ⟨_, k1, hv', xfC_tr y3' k2, ?_, by omega, ?_⟩, rfl⟩
          · show i + (n - (k + 1)) = _
            omega
          · exact y6'
        · rw [if_neg b] at hl y6'
          rw [if_neg b, if_neg (fun q => q rfl), q_lt, q_lt, ← nI_succ, ← nI_succ]
          refine ⟨(i + 1, N'), ⟨_, k1, hv', xfC_tr y3' k2, ?_, by omega, ?_⟩, rfl⟩
          · show i + 1 + (n - (k + 1)) = _
            omega
          · exact y6'
      · rintro ⟨i, N⟩ ⟨Y, y1, y2, y3, y4, y5, y6⟩ g
        show ∃ M', (if nI n ≤ nI n then some N else _) = some M' ∧ _
        rw [if_pos (Int32.le_refl _)]
        rw [Nat.sub_self] at y6
        refine ⟨N, rfl, ?_, y3⟩
        rw [← y6]
        exact y1
