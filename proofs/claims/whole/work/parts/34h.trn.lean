/-! TURNS, and how often one has passed -/
def xpb (B : Nat) (X : qXs) : Prop := ∀ k, k < 10 → ∃ n, n ≤ B + (xL X).length ∧ xP X k = nI n
theorem xpb_wk {B n0 s i : Nat} {X : qXs} (h : xpb B X) : xpb B (xwk n0 s i X).2 := by
  unfold xwk
  by_cases z : xR X ((xQ X s).getD i 0) ≤ 1
  · rw [if_pos z]
    intro k hk
    obtain ⟨n, h1, h2⟩ := h k hk
    show ∃ n, n ≤ B + (xL X ++ [((xQ X s).getD i 0, s)]).length ∧ updp (xP X) (5 * xcl n0 ((xQ X s).getD i 0) + s) k = nI n
    rw [List.length_append]
    unfold updp upd
    by_cases q : k = 5 * xcl n0 ((xQ X s).getD i 0) + s
    · rw [if_pos q, ← q, h2, ← nI_succ]
      exact ⟨n + 1, by show n + 1 ≤ B + ((xL X).length + 1); omega, rfl⟩
    · rw [if_neg q]
      exact ⟨n, by omega, h2⟩
  · rw [if_neg z]
    exact h
theorem xpb_wl {B n0 s : Nat} : ∀ k i X, xpb B X → xpb B (xwl n0 s k i X)
  | 0, _, _, h => h
  | k + 1, i, X, h => by
    rw [xwl_s]
    by_cases z : (xwk n0 s i X).1 = true
    · rw [if_pos z]; exact xpb_wl k i _ (xpb_wk h)
    · rw [if_neg z]; exact xpb_wl k (i + 1) _ (xpb_wk h)
theorem xpb_sv {B n0 s kind : Nat} {X : qXs} (h : xpb B X) : xpb B (xsv n0 s kind X) := by
  unfold xsv
  by_cases z : (xQ X s).length = 0
  · rw [if_pos z]; exact h
  rw [if_neg z]
  by_cases k0 : kind = 0
  · rw [if_pos k0]; exact xpb_wk h
  rw [if_neg k0]
  by_cases k1 : kind = 1
  · rw [if_pos k1]; exact xpb_wk h
  rw [if_neg k1]
  by_cases k2 : kind = 2
  · rw [if_pos k2]
    by_cases u : (xwk n0 s 0 X).1 = true
    · rw [if_pos u]; exact xpb_wk h
    · rw [if_neg u]; exact xpb_wk h
  rw [if_neg k2]
  exact xpb_wl _ _ _ h
theorem xpb_all {B : Nat} {d : qD} {X : qXs} (h : xpb B X) : ∀ s, xpb B (xall d s X)
  | 0 => h
  | s + 1 => xpb_sv (xpb_all h s)
theorem xarr_P (d : qD) : ∀ (l : List (Nat × Nat)) (sd : Int32) (X : qXs), xP (xarr d l sd X).2 = xP X
  | [], _, _ => rfl
  | y :: l, sd, X => xarr_P d l (qsd sd) _
def xpp (B : Nat) (X : qXs) : Prop := ∀ k, k < 10 → ∃ n, n ≤ B ∧ xP X k = nI n
theorem xpp_tn {d : qD} (hd : qOK d) (sd : Int32) {X : qXs} {B : Nat} (hv : xV d X) (h : xpp B X) : xpp (B + 8) (xtn d sd X).2.2 := by
  have h' : xpb B X := fun k hk => by
    obtain ⟨n, h1, h2⟩ := h k hk
    exact ⟨n, by omega, h2⟩
  intro k hk
  obtain ⟨n, h1, h2⟩ := xpb_all (d := d) h' (qS d) k hk
  have h3 := xtn_le hd sd hv
  refine ⟨n, ?_, ?_⟩
  · have h3' : (xL (xall d (qS d) X)).length ≤ 8 := h3
    omega
  · show xP (xarr d _ sd (xall d (qS d) X)).2 k = nI n
    rw [xarr_P]
    exact h2
theorem xpp_tm {d : qD} (hd : qOK d) : ∀ (n : Nat) (a : Nat × Int32 × qXs) (B : Nat), xV d a.2.2 → xpp B a.2.2 → xpp (B + 8 * n) (xtm d n a).2.2
  | 0, _, _, _, h => h
  | n + 1, a, B, hv, h => by
    rw [xtm_s, show B + 8 * (n + 1) = B + 8 + 8 * n by omega]
    exact xpp_tm hd n _ (B + 8) (xtn_V hd a.2.1 hv).1 (xpp_tn hd a.2.1 hv h)
theorem qTr_mono {t t' : Nat} {M : pm_M} {d : qD} (ht : t ≤ t') (h : qTr t M d) : qTr t' M d := by
  obtain ⟨h0, h⟩ := h
  refine ⟨h0, ?_⟩
  rcases h with h | ⟨h1, h2, h3, h4, h5, X, h6, h7, h8, h9, h10⟩
  · exact Or.inl h
  · refine Or.inr ⟨h1, h2, h3, h4, h5, X, h6, h7, h8, h9, fun k hk => ?_⟩
    obtain ⟨n, n1, n2⟩ := h10 k hk
    exact ⟨n, by omega, n2⟩
theorem qInv_mono {t t' : Nat} {M : pm_M} (ht : t ≤ t') (h : qInv t M) : qInv t' M := by
  obtain ⟨d, h1, h2, h3, h4, h5, h6, h7⟩ := h
  exact ⟨d, h1, h2, h3, h4, qTr_mono ht h5, h6, h7⟩
theorem qBo_mono {t t' : Nat} {α : Type} {f g : pm_M → Option (α × pm_M)} {M : pm_M} (ht : t ≤ t') (h : qBo t f g M) : qBo t' f g M := by
  obtain ⟨v, M1, M2, e1, e2, h⟩ := h
  exact ⟨v, M1, M2, e1, e2, qInv_mono ht h⟩
theorem I_turn {t : Nat} {M : pm_M} (h : qInv t M) (a : Int32) : qBo (t + 1) (sC_turn a) (sR_turn a) M := by
  obtain ⟨d, h1, h2, h3, h4, h5, h6, h7⟩ := id h
  obtain ⟨hd, hC, hR, hT, hSt, hF⟩ := id h1
  have hm := qInv_mono (Nat.le_succ t) h
  have hr : ∀ M, sR_in a.toInt64 1 60 M = some (b2i (¬ a < 1 ∧ a ≤ 60), M) := fun M => by
    rw [R_in]
    congr 2
    apply b2i_congr
    rw [Int32.not_lt, Int64.le_iff_toInt_le, Int64.le_iff_toInt_le, Int32.toInt_toInt64, Int32.le_iff_toInt_le, Int32.le_iff_toInt_le]
    exact Iff.rfl
  by_cases z : ¬ a < 1 ∧ a ≤ 60
  case neg =>
    refine ⟨-2, M, M, ?_, ?_, hm⟩
    · unfold sC_turn
      by_cases z1 : a < 1
      · rw [if_pos z1]
      · rw [if_neg z1, if_neg (fun q => z ⟨z1, q⟩)]
    · unfold sR_turn
      rw [hr, q_bd, b2i_f z, if_neg (fun q => q rfl)]
  obtain ⟨z1, z2⟩ := id z
  rcases h5.2 with ⟨a1, -, -, a2, -⟩ | ⟨a1, a2, hs, a4, a5, X, x1, x2, x3, x4, x5⟩
  · refine ⟨-3, M, M, ?_, ?_, hm⟩
    · unfold sC_turn
      rw [if_neg z1, if_pos z2, a1, if_neg (fun q => q rfl)]
    · unfold sR_turn
      rw [hr, q_bd, b2i_t z, if_pos (by decide), a2, if_neg (fun q => q rfl)]
  have hn0 : ¬ a < 0 := by
    rw [Int32.lt_iff_toInt_lt] at z1 ⊢
    have : (1 : Int32).toInt = 1 := rfl
    have : (0 : Int32).toInt = 0 := rfl
    omega
  obtain ⟨n, hn, rfl⟩ := nI_ex hn0
  have hn1 : 1 ≤ n := by
    rw [q1, nI_lt_iff hn (by omega)] at z1
    omega
  have hn60 : n ≤ 60 := by
    rw [show (60 : Int32) = nI 60 from rfl, nI_le_iff hn (by omega)] at z2
    exact z2
  obtain ⟨M1, e1, c1, c2, c3, c4, c5, c6⟩ := C_turn hd hC (xW_snd hd hs) x1 x3 x4 a1 hn1 hn60
  obtain ⟨t1, t2, t3⟩ := c5
  have hR1 : qR M1 d := qR_of hR (by rw [t1 49 (by decide)]) (fun b b1 b2 => t1 b (by simp only [List.mem_cons, List.not_mem_nil, or_false, not_or]; omega))
  have x2' : xM0 M1 X := xM0_of x2 (fun b hb => t1 b (by revert b; decide))
  obtain ⟨M2, e2, r1, r2, r3, r4⟩ := R_turn hd hR1 (xW_snd hd hs) x2' x3 x4 (by rw [t1 49 (by decide)]; exact a2) hn1 hn60
  obtain ⟨u1, u2, u3⟩ := r3
  have e28 : M1.1 49 28 = M.1 30 4 := by rw [t1 49 (by decide)]; exact h5.1.symm
  rw [e28] at e2 r1 r2
  have k49 : ∀ k, k ≠ 23 → k ≠ 28 → k ≠ 29 → M2.1 49 k = M.1 49 k := fun k a b c => by rw [u2 k a b c, t1 49 (by decide)]
  have k1 : ∀ b, b ∉ [30, 31, 32, 33, 34, 35, 36, 49, 66, 67, 68, 69, 70, 71] → M2.1 b = M.1 b := fun b hb => by
    simp only [List.mem_cons, List.not_mem_nil, or_false, not_or] at hb
    rw [u1 b (by simp only [List.mem_cons, List.not_mem_nil, or_false, not_or]; omega), t1 b (by simp only [List.mem_cons, List.not_mem_nil, or_false, not_or]; omega)]
  have k1' : ∀ b, b ∈ [30, 31, 32, 33, 34, 35, 36] → M2.1 b = M1.1 b := fun b hb => u1 b (by revert b; decide)
  have k2 : M2.2 = M.2 := by rw [u3, t3]
  refine ⟨_, M1, M2, e1, e2, d, ?_, qLk_k h2 (by rw [k1 23 (by decide)]) (k1 29 (by decide)), qPy_k h3 (by rw [k2]) (by rw [k2]), qKp_k h4 (k49 32 (by decide) (by decide) (by decide)) (fun b hb => k1 b (by revert b; decide)) (by rw [k2]) (by rw [k2]), ?_, qTp_k h6 (k49 9 (by decide) (by decide) (by decide)) (k1 37 (by decide)) (k1 38 (by decide)) (k1 56 (by decide)), qSh_k h7 (fun b hb => k1 b (by revert b; decide)) (fun b _ => by rw [k2])⟩
  · exact ⟨hd, qC_of hC (fun b hb => k1 b (by simp only [List.mem_cons, List.not_mem_nil, or_false, not_or]; omega)), qR_of hR (k49 1 (by decide) (by decide) (by decide)) (fun b b1 b2 => k1 b (by simp only [List.mem_cons, List.not_mem_nil, or_false, not_or]; omega)), qTo_of hT (fun b b1 b2 => k1 b (by simp only [List.mem_cons, List.not_mem_nil, or_false, not_or]; omega)) (fun b b1 b2 => by rw [k2]), qSt_of hSt (fun k hk => by rw [k1 23 (by decide)]) (k1 24 (by decide)) (by rw [k2]), fun k hk => by rw [k2]; exact hF k hk⟩
  · refine ⟨by rw [k1' 30 (by decide), c2, r2], Or.inr ⟨?_, ?_, hs, ?_, ?_, (xtm d n (0, M.1 30 4, X)).2.2, xC0_of c1 (fun b hb => k1' b (by revert b; decide)) (by rw [k1' 30 (by decide)]), r1, c3, c4, ?_⟩⟩
    · rw [k1' 30 (by decide), t2 0 (by decide) (by decide) (by decide)]; exact a1
    · rw [k49 22 (by decide) (by decide) (by decide)]; exact a2
    · rw [k1' 30 (by decide), t2 1 (by decide) (by decide) (by decide)]; exact a4
    · rw [k1' 30 (by decide), c6, r4, a5, t1 49 (by decide)]
    · intro k hk
      obtain ⟨m, m1, m2⟩ := xpp_tm hd n (0, M.1 30 4, X) (480 * t) x3 x5 k hk
      exact ⟨m, by omega, m2⟩
