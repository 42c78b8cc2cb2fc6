/-! IN TRUTH: a turn, the reference's side -/
theorem R_turnOne {d : qD} {M : pm_M} (hd : qOK d) (hR : qR M d) (hW : xW d) {X : qXs} (h : xM0 M X) (hv : xV d X) (hL : xL X = []) : ∃ M', sR_turnOne M = some (nI (xtn d (M.1 49 28) X).1, M') ∧ xM0 M' (xtn d (M.1 49 28) X).2.2 ∧ M'.1 49 28 = (xtn d (M.1 49 28) X).2.1 ∧ (∀ b, b ∉ [49, 66, 67, 68, 69, 70, 71] → M'.1 b = M.1 b) ∧ (∀ k, k ≠ 23 → k ≠ 28 → k ≠ 29 → M'.1 49 k = M.1 49 k) ∧ M'.1 49 23 = M.1 49 23 + 1 ∧ M'.2 = M.2 := by
  have hS := hd.1
  obtain ⟨c1, c2, c3, c4⟩ := h
  unfold sR_turnOne
  rw [q_lt]
  have hx1 : xM (pm_sI M 49 29 0) X := by
    refine ⟨fun s hs => by rw [sI_1, if_neg (by decide)]; exact c1 s hs, fun s i hs hi => by rw [sI_1, if_neg (by decide)]; exact c2 s i hs hi, fun s x hs hx => by rw [sI_1, if_neg (by decide)]; exact c3 s x hs hx, fun k hk => by rw [sI_1, if_neg (by decide)]; exact c4 k hk, by rw [sI_1, if_pos rfl, upd_at, hL]; rfl, fun i hi => by rw [hL] at hi; exact absurd hi (Nat.not_lt_zero i)⟩
  have hf1 : xfR M (pm_sI M 49 29 0) := ⟨fun b hb => by
    simp only [List.mem_cons, List.not_mem_nil, or_false, not_or] at hb
    rw [sI_1, if_neg (by omega)], fun k hk => by rw [sI_1, if_pos rfl]; unfold upd; rw [if_neg hk], rfl⟩
  refine q_fz (fun o => ∃ M', o = some (nI (xtn d (M.1 49 28) X).1, M') ∧ xM0 M' (xtn d (M.1 49 28) X).2.2 ∧ M'.1 49 28 = (xtn d (M.1 49 28) X).2.1 ∧ (∀ b, b ∉ [49, 66, 67, 68, 69, 70, 71] → M'.1 b = M.1 b) ∧ (∀ k, k ≠ 23 → k ≠ 28 → k ≠ 29 → M'.1 49 k = M.1 49 k) ∧ M'.1 49 23 = M.1 49 23 + 1 ∧ M'.2 = M.2) (fun s N (g : Int32 → pm_M → Option (Int32 × pm_M)) => g (nI s) N) (fun s N => xM N (xall d s X) ∧ xfR M N) (qS d) ?_ ?_ (n := 1000000) (by omega) (a := pm_sI M 49 29 0) ⟨hx1, hf1⟩
  · rintro s N hs ⟨n1, n2⟩ g
    have hRN : qR N d := qR_xf hR n2
    obtain ⟨N', e, e1, e2⟩ := R_serves hd hRN n1 (xall_V hv s (by omega)) (show s < 5 by omega)
    rw [hRN.1, if_neg (by rw [nI_le_iff (by omega) (by omega)]; omega), e, q_bv, q_lt, ← nI_succ]
    exact ⟨N', ⟨e1, xfR_tr n2 e2⟩, rfl⟩
  · rintro N ⟨n1, n2⟩ g
    have hRN : qR N d := qR_xf hR n2
    have hVY := xall_V hv (qS d) hS
    rw [hRN.1, if_pos (Int32.le_refl _)]
    unfold xtn
    generalize xall d (qS d) X = Y at n1 hVY
    obtain ⟨y1, y2, y3, y4, y5, y6⟩ := n1
    generalize hLL : xL Y = L at *
    have hlen : L.length ≤ 8 := by have := xlen hd hVY (s := 0) (by omega); rw [hLL] at this; omega
    have h304 : N.1 49 28 = M.1 49 28 := n2.2.1 28 (by decide)
    rw [← h304]
    refine q_fz (fun o => ∃ M', o = some (nI L.length, M') ∧ xM0 M' (xarr d L (N.1 49 28) Y).2 ∧ M'.1 49 28 = (xarr d L (N.1 49 28) Y).1 ∧ (∀ b, b ∉ [49, 66, 67, 68, 69, 70, 71] → M'.1 b = M.1 b) ∧ (∀ k, k ≠ 23 → k ≠ 28 → k ≠ 29 → M'.1 49 k = M.1 49 k) ∧ M'.1 49 23 = M.1 49 23 + 1 ∧ M'.2 = M.2) (fun j K (g : Int32 → pm_M → Option (Int32 × pm_M)) => g (nI j) K) (fun j K => ∃ Z, xM0 K Z ∧ xV d Z ∧ xL Z = L.drop j ∧ xarr d (L.drop j) (K.1 49 28) Z = xarr d L (N.1 49 28) Y ∧ (∀ b, b ∉ [49, 66, 67, 68] → K.1 b = N.1 b) ∧ (∀ k, k ≠ 28 → K.1 49 k = N.1 49 k) ∧ K.2 = N.2) L.length ?_ ?_ (n := 1000000) (by omega) (a := N) ⟨Y, ⟨y1, y2, y3, y4⟩, hVY, by rw [hLL, List.drop_zero], by rw [List.drop_zero], fun _ _ => rfl, fun _ _ => rfl, rfl⟩
    · rintro j K hj ⟨Z, k1, k2, k3, k5, k6, k7, k8⟩ g5
      rw [drop_cons hj] at k3 k5
      have hyi : L.getD j (0, 0) ∈ xL Z := by rw [k3]; exact List.mem_cons_self
      have h36 : K.1 70 j = nI (L.getD j (0, 0)).1 := by rw [k6 70 (by decide)]; exact (y6 j hj).1
      have h37 : K.1 71 j = nI (L.getD j (0, 0)).2 := by rw [k6 71 (by decide)]; exact (y6 j hj).2
      generalize L.getD j (0, 0) = y at *
      have hy := k2.2.1 y hyi
      have hyl := xL_lt k2 hyi
      have hcl := xcl_2 (qP d 0) y.1
      have hsS := qin_S hd hcl hy.2
      have hRK : qR K d := qR_of hRN (k7 1 (by decide)) (fun b h1 h2 => k6 b (by simp only [List.mem_cons, List.not_mem_nil, or_false, not_or]; omega))
      have hj8 : pm_in (nI j) 8 := by rw [nI_in_iff (by omega)]; omega
      have hin := qgl_in hd (qdr (K.1 49 28) (qwt d (xcl (qP d 0) y.1) y.2)) hcl (by omega) hy.2
      have htS := qin_S hd hcl hin
      have h305 : K.1 49 29 = nI L.length := by rw [k7 29 (by decide)]; exact y5
      have hno : ∀ u, u < 5 → y.1 ∉ xQ Z u := fun u hu hm => xuniL k2 hu hm y hyi rfl
      have hll : ∀ u, u < 5 → (xQ Z u).length + 1 ≤ 8 := fun u hu => by
        have := xlen hd k2 hu
        rw [k3] at this
        have e : (y :: L.drop (j + 1)).length = (L.drop (j + 1)).length + 1 := rfl
        omega
      have hKs : xM0 (pm_sI K 49 28 (qsd (K.1 49 28))) Z := xM0_of k1 (fun b hb => by
        rw [sI_1, if_neg]
        rintro rfl
        exact absurd hb (by decide))
      have hRs : qR (pm_sI K 49 28 (qsd (K.1 49 28))) d := qR_of hRK (by rw [sI_1, if_pos rfl]; unfold upd; rw [if_neg (by decide)]) (fun b h1 h2 => by rw [sI_1, if_neg (by omega)])
      obtain ⟨K', e, z1, z2, z3⟩ := R_comes hd hRs hKs (x := y.1) (t := xgo d (K.1 49 28) y) hy.1 htS hno (fun u hu => by have := hll u hu; omega) (by have := hll (xgo d (K.1 49 28) y) (by show qgl _ _ _ _ < 5; omega); omega)
      simp only [eq_true hj8, if_true, nI_cl j (show j < 2 ^ 31 by omega)]
      rw [h305, if_neg (by rw [nI_le_iff (by omega) (by omega)]; omega), h36, R_classOf hRK hd (by omega), q_bd, h37, R_leads hd hRK hcl (by omega) (hW y.1 y.2 hyl hy.2), q_bd]
      rw [show qgl d (xcl (qP d 0) y.1) y.2 (qdr (K.1 49 28) (qwt d (xcl (qP d 0) y.1) y.2)) = xgo d (K.1 49 28) y from rfl, e, q_bv, q_lt, ← nI_succ]
      have k304 : K'.1 49 28 = qsd (K.1 49 28) := by rw [z2 49 (by decide), sI_1, if_pos rfl, upd_at]
      refine ⟨K', ⟨xadd d y.1 (xgo d (K.1 49 28) y) (xQ Z, xR Z, L.drop (j + 1), xP Z), z1, xadd_V hd k3 k2 hin, rfl, ?_, fun b hb => ?_, fun k hk => ?_, ?_⟩, rfl⟩
      · rw [k304, ← k5]
        rfl
      · simp only [List.mem_cons, List.not_mem_nil, or_false, not_or] at hb
        rw [z2 b (by simp only [List.mem_cons, List.not_mem_nil, or_false, not_or]; omega), sI_1, if_neg (by omega), k6 b (by simp only [List.mem_cons, List.not_mem_nil, or_false, not_or]; omega)]
      · rw [z2 49 (by decide), sI_1, if_pos rfl]
        unfold upd
        rw [if_neg hk]
        exact k7 k hk
      · rw [z3]
        exact k8
    · rintro K ⟨Z, k1, k2, k3, k5, k6, k7, k8⟩ g5
      rw [List.drop_length] at k5 k3
      have h305 : K.1 49 29 = nI L.length := by rw [k7 29 (by decide)]; exact y5
      have k5' : (K.1 49 28, Z) = xarr d L (N.1 49 28) Y := k5
      rw [h305, if_pos (Int32.le_refl _), q_lt]
      have h305' : (pm_sI K 49 23 (K.1 49 23 + 1)).1 49 29 = nI L.length := by rw [sI_1, if_pos rfl]; unfold upd; rw [if_neg (by decide)]; exact h305
      rw [h305', ← k5']
      refine ⟨_, rfl, xM0_of k1 (fun b hb => ?_), by rw [sI_1, if_pos rfl]; unfold upd; rw [if_neg (by decide)], fun b hb => ?_, fun k h3 h4 h5 => ?_, ?_, ?_⟩
      · rw [sI_1, if_neg]
        rintro rfl
        exact absurd hb (by decide)
      · simp only [List.mem_cons, List.not_mem_nil, or_false, not_or] at hb
        rw [sI_1, if_neg (by omega), k6 b (by simp only [List.mem_cons, List.not_mem_nil, or_false, not_or]; omega), n2.1 b (by simp only [List.mem_cons, List.not_mem_nil, or_false, not_or]; omega)]
      · rw [sI_1, if_pos rfl]
        unfold upd
        rw [if_neg h3, k7 k h4, n2.2.1 k h5]
      · rw [sI_1, if_pos rfl, upd_at, k7 23 (by decide), n2.2.1 23 (by decide)]
      · show K.2 = M.2
        rw [k8, n2.2.2]
theorem xtn_V {d : qD} (hd : qOK d) (sd : Int32) {X : qXs} (h : xV d X) : xV d (xtn d sd X).2.2 ∧ xL (xtn d sd X).2.2 = [] := xarr_V hd _ sd _ rfl (xall_V h (qS d) hd.1)
/-- many turns -/
def xtm (d : qD) : Nat → Nat × Int32 × qXs → Nat × Int32 × qXs
  | 0, a => a
  | k + 1, a => xtm d k (a.1 + (xtn d a.2.1 a.2.2).1, (xtn d a.2.1 a.2.2).2)
theorem xtm_s (d : qD) (k : Nat) (a : Nat × Int32 × qXs) : xtm d (k + 1) a = xtm d k (a.1 + (xtn d a.2.1 a.2.2).1, (xtn d a.2.1 a.2.2).2) := rfl
theorem xtn_le {d : qD} (hd : qOK d) (sd : Int32) {X : qXs} (h : xV d X) : (xtn d sd X).1 ≤ 8 := by
  have hv := xall_V h (qS d) hd.1
  have := xlen hd hv (s := 0) (by omega)
  unfold xtn
  dsimp only
  omega
/-- what a turn of the class leaves alone -/
def xtC (M M' : pm_M) : Prop := (∀ b, b ∉ [30, 31, 32, 33, 34, 35, 36] → M'.1 b = M.1 b) ∧ (∀ k, k ≠ 3 → k ≠ 4 → k ≠ 5 → M'.1 30 k = M.1 30 k) ∧ M'.2 = M.2
def xtR (M M' : pm_M) : Prop := (∀ b, b ∉ [49, 66, 67, 68, 69, 70, 71] → M'.1 b = M.1 b) ∧ (∀ k, k ≠ 23 → k ≠ 28 → k ≠ 29 → M'.1 49 k = M.1 49 k) ∧ M'.2 = M.2
theorem C_turn {d : qD} {M : pm_M} (hd : qOK d) (hC : qC M d) (hW : xW d) {X : qXs} (h : xC0 (qP d 0) M X) (hv : xV d X) (hL : xL X = []) (hb : M.1 30 0 = 1) {n : Nat} (h1 : 1 ≤ n) (h60 : n ≤ 60) : ∃ M', sC_turn (nI n) M = some (nI (xtm d n (0, M.1 30 4, X)).1, M') ∧ xC0 (qP d 0) M' (xtm d n (0, M.1 30 4, X)).2.2 ∧ M'.1 30 4 = (xtm d n (0, M.1 30 4, X)).2.1 ∧ xV d (xtm d n (0, M.1 30 4, X)).2.2 ∧ xL (xtm d n (0, M.1 30 4, X)).2.2 = [] ∧ xtC M M' ∧ M'.1 30 3 = M.1 30 3 + nI n := by
  unfold sC_turn
  rw [if_neg (by rw [q1, nI_lt_iff (by omega) (by omega)]; omega), if_pos (by rw [show (60 : Int32) = nI 60 from rfl, nI_le_iff (by omega) (by omega)]; exact h60), hb, if_pos (by decide)]
  refine q_fz (fun o => ∃ M', o = some (nI (xtm d n (0, M.1 30 4, X)).1, M') ∧ xC0 (qP d 0) M' (xtm d n (0, M.1 30 4, X)).2.2 ∧ M'.1 30 4 = (xtm d n (0, M.1 30 4, X)).2.1 ∧ xV d (xtm d n (0, M.1 30 4, X)).2.2 ∧ xL (xtm d n (0, M.1 30 4, X)).2.2 = [] ∧ xtC M M' ∧ M'.1 30 3 = M.1 30 3 + nI n) (fun k (a : Nat × pm_M) (g : Int32 → Int32 → pm_M → Option (Int32 × pm_M)) => g (nI a.1) (nI k) a.2) (fun k a => ∃ Y, xC0 (qP d 0) a.2 Y ∧ xV d Y ∧ xL Y = [] ∧ xtC M a.2 ∧ k ≤ n ∧ xtm d (n - k) (a.1, a.2.1 30 4, Y) = xtm d n (0, M.1 30 4, X) ∧ a.2.1 30 3 = M.1 30 3 + nI k) n ?_ ?_ (n := 1000000) (by omega) (a := (0, M)) ⟨X, h, hv, hL, ⟨fun _ _ => rfl, fun _ _ _ _ => rfl, rfl⟩, Nat.zero_le _, rfl, (Int32.add_zero _).symm⟩
  · rintro k ⟨m, N⟩ hk ⟨Y, y1, y2, y3, y4, y5, y6, y7⟩ g
    have y1' : xC0 (qP d 0) N Y := y1
    have y4' : xtC M N := y4
    have hCN : qC N d := qC_of hC (fun b hb => y4'.1 b (by simp only [List.mem_cons, List.not_mem_nil, or_false, not_or]; omega))
    obtain ⟨N', e, e1, e2, e3, e4, e5, e6⟩ := C_turnOnce hd hCN hW y1' y2 y3
    obtain ⟨v1, v2⟩ := xtn_V hd (N.1 30 4) y2
    show ∃ a', _ ∧ (if nI n ≤ nI k then some (nI m, N) else (pm_bd (sTruth_turnOnce N) fun v6 M5 => pm_lt ((nI m + v6)) fun x7 => pm_lt ((nI k + (1 : Int32))) fun x8 => g x7 x8 M5)) = _
    rw [if_neg (by rw [nI_le_iff (by omega) (by omega)]; omega), e, q_bd, qI_add, q_lt, q_lt, ← nI_succ]
    have y6' : xtm d (n - k) (m, N.1 30 4, Y) = xtm d n (0, M.1 30 4, X) := y6
    rw [show n - k = (n - (k + 1)) + 1 by omega, xtm_s] at y6'
    refine ⟨(m + (xtn d (N.1 30 4) Y).1, N'), ⟨_, e1, v1, v2, ⟨fun b hb => by rw [e3 b hb, y4'.1 b hb], fun j h3 h4 h5 => by rw [e4 j h3 h4 h5, y4'.2.1 j h3 h4 h5], by rw [e6, y4'.2.2]⟩, by omega, ?_, ?_⟩, rfl⟩
    · show xtm d (n - (k + 1)) (m + (xtn d (N.1 30 4) Y).1, N'.1 30 4, (xtn d (N.1 30 4) Y).2.2) = _
      rw [e2]
      exact y6'
    · show N'.1 30 3 = _
      have y7' : N.1 30 3 = M.1 30 3 + nI k := y7
      rw [e5, y7', nI_succ, Int32.add_assoc]
  · rintro ⟨m, N⟩ ⟨Y, y1, y2, y3, y4, y5, y6, y7⟩ g
    show ∃ M', (if nI n ≤ nI n then some (nI m, N) else _) = some (_, M') ∧ _
    rw [Nat.sub_self] at y6
    have y6' : (m, N.1 30 4, Y) = xtm d n (0, M.1 30 4, X) := y6
    rw [if_pos (Int32.le_refl _), ← y6']
    exact ⟨N, rfl, y1, rfl, y2, y3, y4, y7⟩
theorem R_turn {d : qD} {M : pm_M} (hd : qOK d) (hR : qR M d) (hW : xW d) {X : qXs} (h : xM0 M X) (hv : xV d X) (hL : xL X = []) (hb : M.1 49 22 = 1) {n : Nat} (h1 : 1 ≤ n) (h60 : n ≤ 60) : ∃ M', sR_turn (nI n) M = some (nI (xtm d n (0, M.1 49 28, X)).1, M') ∧ xM0 M' (xtm d n (0, M.1 49 28, X)).2.2 ∧ M'.1 49 28 = (xtm d n (0, M.1 49 28, X)).2.1 ∧ xtR M M' ∧ M'.1 49 23 = M.1 49 23 + nI n := by
  have hr : sR_in (nI n).toInt64 1 60 M = some (1, M) := by
    rw [R_in, nI_toL (by omega), b2i_t]
    exact ⟨(nL_le_iff (a := 1) (by omega) (by omega)).mpr h1, (nL_le_iff (b := 60) (by omega) (by omega)).mpr h60⟩
  unfold sR_turn
  rw [hr, q_bd, if_pos (by decide), hb, if_pos (by decide)]
  refine q_fz (fun o => ∃ M', o = some (nI (xtm d n (0, M.1 49 28, X)).1, M') ∧ xM0 M' (xtm d n (0, M.1 49 28, X)).2.2 ∧ M'.1 49 28 = (xtm d n (0, M.1 49 28, X)).2.1 ∧ xtR M M' ∧ M'.1 49 23 = M.1 49 23 + nI n) (fun k (a : Nat × pm_M) (g : Int32 → Int32 → pm_M → Option (Int32 × pm_M)) => g (nI a.1) (nI k) a.2) (fun k a => ∃ Y, xM0 a.2 Y ∧ xV d Y ∧ xL Y = [] ∧ xtR M a.2 ∧ k ≤ n ∧ xtm d (n - k) (a.1, a.2.1 49 28, Y) = xtm d n (0, M.1 49 28, X) ∧ a.2.1 49 23 = M.1 49 23 + nI k) n ?_ ?_ (n := 1000000) (by omega) (a := (0, M)) ⟨X, h, hv, hL, ⟨fun _ _ => rfl, fun _ _ _ _ => rfl, rfl⟩, Nat.zero_le _, rfl, (Int32.add_zero _).symm⟩
  · rintro k ⟨m, N⟩ hk ⟨Y, y1, y2, y3, y4, y5, y6, y7⟩ g
    have y1' : xM0 N Y := y1
    have y4' : xtR M N := y4
    have hRN : qR N d := qR_of hR (y4'.2.1 1 (by decide) (by decide) (by decide)) (fun b h1 h2 => y4'.1 b (by simp only [List.mem_cons, List.not_mem_nil, or_false, not_or]; omega))
    obtain ⟨N', e, e1, e2, e3, e4, e5, e6⟩ := R_turnOne hd hRN hW y1' y2 y3
    obtain ⟨v1, v2⟩ := xtn_V hd (N.1 49 28) y2
    show ∃ a', _ ∧ (if nI n ≤ nI k then some (nI m, N) else (pm_bd (sR_turnOne N) fun v6 M5 => pm_lt ((nI m + v6)) fun x7 => pm_lt ((nI k + (1 : Int32))) fun x8 => g x7 x8 M5)) = _
    rw [if_neg (by rw [nI_le_iff (by omega) (by omega)]; omega), e, q_bd, qI_add, q_lt, q_lt, ← nI_succ]
    have y6' : xtm d (n - k) (m, N.1 49 28, Y) = xtm d n (0, M.1 49 28, X) := y6
    rw [show n - k = (n - (k + 1)) + 1 by omega, xtm_s] at y6'
    refine ⟨(m + (xtn d (N.1 49 28) Y).1, N'), ⟨_, e1, v1, v2, ⟨fun b hb => by rw [e3 b hb, y4'.1 b hb], fun j h3 h4 h5 => by rw [e4 j h3 h4 h5, y4'.2.1 j h3 h4 h5], by rw [e6, y4'.2.2]⟩, by omega, ?_, ?_⟩, rfl⟩
    · show xtm d (n - (k + 1)) (m + (xtn d (N.1 49 28) Y).1, N'.1 49 28, (xtn d (N.1 49 28) Y).2.2) = _
      rw [e2]
      exact y6'
    · show N'.1 49 23 = _
      have y7' : N.1 49 23 = M.1 49 23 + nI k := y7
      rw [e5, y7', nI_succ, Int32.add_assoc]
  · rintro ⟨m, N⟩ ⟨Y, y1, y2, y3, y4, y5, y6, y7⟩ g
    show ∃ M', (if nI n ≤ nI n then some (nI m, N) else _) = some (_, M') ∧ _
    rw [Nat.sub_self] at y6
    have y6' : (m, N.1 49 28, Y) = xtm d n (0, M.1 49 28, X) := y6
    rw [if_pos (Int32.le_refl _), ← y6']
    exact ⟨N, rfl, y1, rfl, y4, y7⟩
