/-! IN TRUTH: serving a station, the reference's side, as a whole -/
/-- the rest alone is less -/
theorem R_stay {d : qD} {M : pm_M} {X : qXs} (h : xM M X) {s i : Nat} (hb : ¬ (xwk (qP d 0) s i X).1 = true) : xM (mu_I M 68 (upd (M.1 68) ((xQ X s).getD i 0) (nI (xR X ((xQ X s).getD i 0) - 1)))) (xwk (qP d 0) s i X).2 ∧ xfR M (mu_I M 68 (upd (M.1 68) ((xQ X s).getD i 0) (nI (xR X ((xQ X s).getD i 0) - 1)))) := by
  obtain ⟨c1, c2, c3, c4, c5, c6⟩ := h
  have hxw : xwk (qP d 0) s i X = (false, (xQ X, fupd (xR X) ((xQ X s).getD i 0) (xR X ((xQ X s).getD i 0) - 1), xL X, xP X)) := by
    unfold xwk at hb ⊢
    by_cases z : xR X ((xQ X s).getD i 0) ≤ 1
    · rw [if_pos z] at hb
      exact absurd rfl hb
    · rw [if_neg z]
  rw [hxw]
  refine ⟨⟨fun t ht => by rw [uI_0 _ _ _ _ (by decide)]; exact c1 t ht, fun t j ht hj => by rw [uI_0 _ _ _ _ (by decide)]; exact c2 t j ht hj, fun t y ht hm => ?_, fun k hk => by rw [uI_0 _ _ _ _ (by decide)]; exact c4 k hk, by rw [uI_0 _ _ _ _ (by decide)]; exact c5, fun j hj => by rw [uI_0 _ _ _ _ (by decide), uI_0 _ _ _ _ (by decide)]; exact c6 j hj⟩, fun b hb => ?_, fun k _ => by rw [uI_0 _ _ _ _ (by decide)], rfl⟩
  · rw [uI_a]
    show upd (M.1 68) _ _ y = nI (fupd (xR X) _ _ y)
    unfold upd
    by_cases q : y = (xQ X s).getD i 0
    · rw [if_pos q, q, fupd_at]
    · rw [if_neg q, fupd_ne _ _ q]
      exact c3 t y ht hm
  · simp only [List.mem_cons, List.not_mem_nil, or_false, not_or] at hb
    rw [uI_0 _ _ _ _ (by omega)]
/-- the first comes last -/
theorem R_rot {d : qD} {M : pm_M} (hd : qOK d) {X : qXs} (h : xM M X) (hv : xV d X) {s : Nat} (hs : s < 5) (hi : 0 < (xQ X s).length) : ∃ M', sR_goes (nI s) (nI 0) (0 : Int32) M = some M' ∧ xM M' (xrot s X) ∧ xfR M M' := by
  obtain ⟨c1, c2, c3, c4, c5, c6⟩ := h
  have hl8 := xlen hd hv hs
  refine R_goes_to (M := M) (f := fun j => (xQ X s).getD j 0) (fun o => ∃ M', o = some M' ∧ xM M' (xrot s X) ∧ xfR M M') 0 hs hi (by omega) (c1 s hs) (fun j hj => c2 s j hs hj) ?_
  intro M6 g1 g2 g3 g4
  rw [if_neg (fun q => q rfl)]
  have elen : ((xQ X s).eraseIdx 0 ++ [(xQ X s).getD 0 0]).length = (xQ X s).length := by
    rw [List.length_append, len_er (by omega)]
    show _ + 1 = _
    omega
  have hmem : ∀ t y, y ∈ lupd (xQ X) s ((xQ X s).eraseIdx 0 ++ [(xQ X s).getD 0 0]) t → y ∈ xQ X t := by
    intro t y hy
    by_cases q : t = s
    · rw [q, lupd_at] at hy
      rw [q]
      rcases List.mem_append.mp hy with u | u
      · exact mem_er u
      · rw [List.mem_singleton] at u
        rw [u]
        exact getD_mem (by omega)
    · rwa [lupd_ne _ _ q] at hy
  refine ⟨M6, rfl, ⟨fun t ht => ?_, fun t j ht hj => ?_, fun t y ht hm => ?_, fun k hk => by rw [g1 69 (by decide)]; exact c4 k hk, by rw [g1 49 (by decide)]; exact c5, fun j hj => by rw [g1 70 (by decide), g1 71 (by decide)]; exact c6 j hj⟩, fun b hb => ?_, fun k _ => by rw [g1 49 (by decide)], g2⟩
  · rw [g1 66 (by decide)]
    show _ = nI (lupd (xQ X) s ((xQ X s).eraseIdx 0 ++ [(xQ X s).getD 0 0]) t).length
    by_cases q : t = s
    · rw [q, lupd_at, elen]
      exact c1 s hs
    · rw [lupd_ne _ _ q]
      exact c1 t ht
  · have hj' : j < (lupd (xQ X) s ((xQ X s).eraseIdx 0 ++ [(xQ X s).getD 0 0]) t).length := hj
    show _ = nI ((lupd (xQ X) s ((xQ X s).eraseIdx 0 ++ [(xQ X s).getD 0 0]) t).getD j 0)
    by_cases q : t = s
    · rw [q, lupd_at] at hj' ⊢
      rw [elen] at hj'
      rw [g3 j hj', if_neg (Nat.not_lt_zero j)]
      congr 1
      by_cases u : j < (xQ X s).length - 1
      · rw [if_pos u, lgA _ _ (by rw [len_er (by omega)]; omega), getD_er, if_neg (Nat.not_lt_zero j)]
      · rw [if_neg u]
        have lw : ∀ l : List Nat, ∀ y : Nat, (l ++ [y]).getD l.length 0 = y := fun l y => by rw [List.getD_eq_getElem?_getD, List.getElem?_append_right (Nat.le_refl _), Nat.sub_self]; rfl
        have lx := lw ((xQ X s).eraseIdx 0) ((xQ X s).getD 0 0)
        rw [len_er (by omega), show (xQ X s).length - 1 = j by omega] at lx
        exact lx.symm
    · rw [lupd_ne _ _ q] at hj' ⊢
      have := xlen hd hv ht
      rw [g4 _ (by omega)]
      exact c2 t j ht hj'
  · rw [g1 68 (by decide)]
    exact c3 t y ht (hmem t y hm)
  · simp only [List.mem_cons, List.not_mem_nil, or_false, not_or] at hb
    exact g1 b (by omega)
theorem qR_xf {d : qD} {M M' : pm_M} (h : qR M d) (f : xfR M M') : qR M' d := qR_of h (f.2.1 1 (by decide)) (fun b h1 h2 => f.1 b (by simp only [List.mem_cons, List.not_mem_nil, or_false, not_or]; omega))
theorem R_serves {d : qD} {M : pm_M} (hd : qOK d) (hR : qR M d) {X : qXs} (h : xM M X) (hv : xV d X) {s : Nat} (hs : s < 5) : ∃ M', sR_serves (nI s) M = some M' ∧ xM M' (xsv (qP d 0) s (qK d s) X) ∧ xfR M M' := by
  obtain ⟨c1, c2, c3, c4, c5, c6⟩ := id h
  have hl8 := xlen hd hv hs
  have hK := hd.2.1 s
  have hin5 : pm_in (nI s) 5 := by rw [nI_in_iff (by omega)]; omega
  have hcs : (nI s).toNatClampNeg = s := nI_cl s (by omega)
  unfold sR_serves xsv
  simp only [eq_true hin5, hcs, if_true]
  rw [c1 s hs, hR.2.1]
  have k3 : nI (qK d s) = 3 ↔ qK d s = 3 := by rw [q3, nI_inj (by omega) (by omega)]
  have k2 : nI (qK d s) = 2 ↔ qK d s = 2 := by rw [q2, nI_inj (by omega) (by omega)]
  have k1 : nI (qK d s) = 1 ↔ qK d s = 1 := by rw [q1, nI_inj (by omega) (by omega)]
  by_cases z : (xQ X s).length = 0
  · rw [if_pos z, z, if_neg (by decide)]
    exact ⟨M, rfl, h, xfR_rf⟩
  · rw [if_neg z, if_pos (by rw [q0, nI_inj (by omega) (by omega)]; exact z)]
    by_cases w : qK d s = 3
    · rw [if_neg (fun q => q (k3.mpr w)), w, if_neg (show ¬ (3 : Nat) = 0 by decide), if_neg (show ¬ (3 : Nat) = 1 by decide), if_neg (show ¬ (3 : Nat) = 2 by decide)]
      generalize hn : (xQ X s).length = n at *
      refine q_fz (fun o => ∃ M', o = some M' ∧ xM M' (xwl (qP d 0) s n 0 X) ∧ xfR M M') (fun k (a : Nat × pm_M) (g : Int32 → pm_M → Option pm_M) => g (nI a.1) a.2) (fun k a => ∃ Y, xM a.2 Y ∧ xV d Y ∧ xfR M a.2 ∧ a.1 + (n - k) = (xQ Y s).length ∧ k ≤ n ∧ xwl (qP d 0) s (n - k) a.1 Y = xwl (qP d 0) s n 0 X) n ?_ ?_ (n := 1000000) (by omega) (a := (0, M)) ⟨X, h, hv, xfR_rf, by rw [hn]; show 0 + (n - 0) = n; omega, Nat.zero_le _, rfl⟩
      · rintro k ⟨i, N⟩ hk ⟨Y, y1, y2, y3, y4, y5, y6⟩ g
        have y4' : i + (n - k) = (xQ Y s).length := y4
        have hi : i < (xQ Y s).length := by omega
        have hl8' := xlen hd y2 hs
        have hl := xwk_len (n0 := qP d 0) hi
        have hv' := xwk_V y2 hs hi
        have y6' : xwl (qP d 0) s (n - k) i Y = xwl (qP d 0) s n 0 X := y6
        have y1' : xM N Y := y1
        rw [show n - k = (n - (k + 1)) + 1 by omega, xwl_s] at y6'
        have y3' : xfR M N := y3
        show ∃ a', _ ∧ (if (N.1 66 s) ≤ nI i then (some N) else (pm_bd (sR_isOver (nI s) (nI i) N) fun v13 M12 => if v13 = 0 then (pm_lt ((nI i + (1 : Int32))) fun x14 => g x14 M12) else (pm_bv (sR_goes (nI s) (nI i) (1 : Int32) M12) fun M15 => g (nI i) M15))) = _
        rw [y1'.1 s hs, if_neg (by rw [nI_le_iff (by omega) (by omega)]; omega), R_isOver hd y1' y2 hs hi, q_bd]
        by_cases b : (xwk (qP d 0) s i Y).1 = true
        · obtain ⟨N', e, e1, e2⟩ := R_leave hd (qR_xf hR y3') y1' y2 hs hi b
          rw [if_pos b] at hl y6'
          rw [if_pos b, if_neg (by decide), e, q_bv]
          refine ⟨(i, N'), ⟨_, e1, hv', xfR_tr y3' e2, ?_, by omega, ?_⟩, rfl⟩
          · show i + (n - (k + 1)) = _
            omega
          · exact y6'
        · obtain ⟨e1, e2⟩ := R_stay (d := d) y1' b
          rw [if_neg b] at hl y6'
          rw [if_neg b, if_pos rfl, q_lt, ← nI_succ]
          refine ⟨(i + 1, _), ⟨_, e1, hv', xfR_tr y3' e2, ?_, by omega, ?_⟩, rfl⟩
          · show i + 1 + (n - (k + 1)) = _
            omega
          · exact y6'
      · rintro ⟨i, N⟩ ⟨Y, y1, y2, y3, y4, y5, y6⟩ g
        have y1' : xM N Y := y1
        have y4' : i + (n - n) = (xQ Y s).length := y4
        have hl8' := xlen hd y2 hs
        show ∃ M', (if (N.1 66 s) ≤ nI i then some N else _) = some M' ∧ _
        rw [y1'.1 s hs, if_pos (by rw [nI_le_iff (by omega) (by omega)]; omega)]
        rw [Nat.sub_self] at y6
        refine ⟨N, rfl, ?_, y3⟩
        rw [← y6]
        exact y1
    · rw [if_pos (fun q => w (k3.mp q))]
      have main : ∀ i, i < (xQ X s).length → (qK d s = 2 → i = 0) → ∃ M', (pm_bd (sR_isOver (nI s) (nI i) M) fun v5 M4 => pm_jn (fun (M7 : pm_M) => pm_bv (sR_goes (nI s) (nI i) v5 M7) fun M8 => some M8) fun (j6 : pm_M → Option (pm_M)) => if ¬ v5 = 0 then (j6 M4) else (if ¬ (M4.1 50 s) = (2 : Int32) then (some M4) else (j6 M4))) = some M' ∧ xM M' (if (xwk (qP d 0) s i X).1 = true then (xwk (qP d 0) s i X).2 else if qK d s = 2 then xrot s (xwk (qP d 0) s i X).2 else (xwk (qP d 0) s i X).2) ∧ xfR M M' := by
        intro i hi h2
        rw [R_isOver hd h hv hs hi, q_bd, q_jn]
        by_cases b : (xwk (qP d 0) s i X).1 = true
        · obtain ⟨N', e, e1, e2⟩ := R_leave hd hR h hv hs hi b
          rw [if_pos b, if_pos (by decide), if_pos b]
          dsimp only
          rw [e, q_bv]
          exact ⟨N', rfl, e1, e2⟩
        · obtain ⟨e1, e2⟩ := R_stay (d := d) h b
          rw [if_neg b, if_neg (fun q => q rfl), if_neg b, uI_0 _ _ _ _ (by decide), hR.2.1]
          by_cases y : qK d s = 2
          · have hi0 := h2 y
            have hq := xwk_f b
            have hv' := xwk_V hv hs hi
            rw [if_neg (fun q => q (k2.mpr y)), if_pos y]
            dsimp only
            subst hi0
            obtain ⟨N', e, e3, e4⟩ := R_rot hd e1 hv' hs (by rw [hq]; exact hi)
            rw [e, q_bv]
            exact ⟨N', rfl, e3, xfR_tr e2 e4⟩
          · rw [if_pos (fun q => y (k2.mp q)), if_neg y]
            exact ⟨_, rfl, e1, e2⟩
      rw [q_jn]
      by_cases y : qK d s = 1
      · have em : nI (xQ X s).length - (1 : Int32) = nI ((xQ X s).length - 1) := by rw [q1, nI_sub (by omega)]
        rw [if_neg (fun q => q (k1.mpr y)), y, if_neg (show ¬ (1 : Nat) = 0 by decide), if_pos (show (1 : Nat) = 1 from rfl), em]
        obtain ⟨M', e, e1, e2⟩ := main ((xQ X s).length - 1) (by omega) (fun q => by omega)
        refine ⟨M', e, ?_, e2⟩
        rw [y, if_neg (show ¬ (1 : Nat) = 2 by decide), ite_self] at e1
        exact e1
      · rw [if_pos (fun q => y (k1.mp q))]
        obtain ⟨M', e, e1, e2⟩ := main 0 (by omega) (fun _ => rfl)
        refine ⟨M', e, ?_, e2⟩
        by_cases k0 : qK d s = 0
        · rw [k0, if_neg (show ¬ (0 : Nat) = 2 by decide), ite_self] at e1
          rw [if_pos k0]
          exact e1
        · have k22 : qK d s = 2 := by omega
          rw [if_pos k22] at e1
          rw [if_neg k0, if_neg y, if_pos k22]
          exact e1
