/-! IS THE NET SOUND: the reference's; the states' loading; what follows a telling -/
/-- a loop that comes through the states 0 .. N, each with its memory, or ends well before -/
theorem q_fx {α β ρ : Type} {bot : β} {F : β → β} (Z : Option ρ → Prop) (ap : Nat → α → β → Option ρ) (P : Nat → α → Prop) (N : Nat) (hs : ∀ i a, i < N → P i a → ∀ g, Z (ap i a (F g)) ∨ ∃ a', P (i + 1) a' ∧ ap i a (F g) = ap (i + 1) a' g) (he : ∀ a, P N a → ∀ g, Z (ap N a (F g))) {n : Nat} (hn : N < n) {a : α} (h0 : P 0 a) : Z (ap 0 a (pm_loop bot F n)) := by
  have key : ∀ k i m a, i + k = N → k < m → P i a → Z (ap i a (pm_loop bot F m)) := by
    intro k
    induction k with
    | zero =>
      intro i m a h1 h2 hP
      cases m with
      | zero => omega
      | succ m =>
        have : i = N := by omega
        subst this
        exact he _ hP _
    | succ k ih =>
      intro i m a h1 h2 hP
      cases m with
      | zero => omega
      | succ m =>
        rw [q_lp]
        rcases hs i a (by omega) hP (pm_loop bot F m) with h | ⟨a', h3, h4⟩
        · exact h
        · rw [h4]
          exact ih (i + 1) m a' (by omega) (by omega) h3
  exact key N 0 n a (by omega) hn h0
def qsnd (d : qD) : Prop := qft d 0 ∧ qft d 1
theorem qsnd_c {d : qD} (h : qsnd d) {c : Nat} (hc : c < 2) : qft d c := by
  match c, hc with
  | 0, _ => exact h.1
  | 1, _ => exact h.2
  | k + 2, h => omega
noncomputable def qdd (d : qD) (c s : Nat) : Nat := if qP d c = 0 then 0 else qde d c s
theorem qdd_le {d : qD} (hd : qOK d) (h : qsnd d) {c : Nat} (hc : c < 2) (s : Nat) : qdd d c s ≤ 20 := by
  unfold qdd
  by_cases hp : qP d c = 0
  · rw [if_pos hp]; omega
  · rw [if_neg hp]
    by_cases hs : s < qS d
    · rcases qsnd_c h hc with q | q
      · exact absurd q hp
      · exact q.2 s hs
    · rw [qde_out hd hc (by omega)]; omega
theorem qdd_out {d : qD} (hd : qOK d) {c s : Nat} (hc : c < 2) (hs : qS d ≤ s) : qdd d c s = 0 := by
  unfold qdd
  split
  · rfl
  · exact qde_out hd hc hs
/-- behind the reference's question whether the net is sound -/
def qZs (d : qD) (M : pm_M) (o : Option (Int32 × pm_M)) : Prop := ∃ M', o = some (q2i (qsnd d), M') ∧ M'.1 = M.1 ∧ (∀ b, b ≠ 59 → b ≠ 60 → M'.2 b = M.2 b) ∧ (qsnd d → (∀ c s, c < 2 → s < 5 → M'.2 60 (5 * c + s) = nL (qdd d c s)) ∧ ∀ c s, c < 2 → s < 5 → qP d c ≠ 0 → M'.2 59 (5 * c + s) = nL (qvi d c s))
/-- what the reference's question has told of the classes below i -/
def qPs (d : qD) (M : pm_M) (i : Nat) (N : pm_M) : Prop := N.1 = M.1 ∧ (∀ b, b ≠ 59 → b ≠ 60 → N.2 b = M.2 b) ∧ (∀ c, c < i → qft d c) ∧ (∀ c s, c < i → s < 5 → N.2 60 (5 * c + s) = nL (qdd d c s)) ∧ ∀ c s, c < i → s < 5 → qP d c ≠ 0 → N.2 59 (5 * c + s) = nL (qvi d c s)
theorem qR_1 {d : qD} {M N : pm_M} (h : qR M d) (e : N.1 = M.1) : qR N d := qR_of h (by rw [e]) (fun b _ _ => by rw [e])
theorem R_isSound {d : qD} {M : pm_M} (hd : qOK d) (h : qR M d) : qZs d M (sR_isSound M) := by
  have hS := hd.1
  unfold sR_isSound
  refine q_fx (qZs d M) (fun i N (g : Int32 → pm_M → Option (Int32 × pm_M)) => g (nI i) N) (qPs d M) 2 ?_ ?_ (by omega) ⟨rfl, fun b _ _ => rfl, fun c hc => absurd hc (Nat.not_lt_zero c), fun c s hc => absurd hc (Nat.not_lt_zero c), fun c s hc => absurd hc (Nat.not_lt_zero c)⟩
  · rintro i N hi ⟨n1, n2, n3, n4, n5⟩ g
    have hpl := hd.2.2.2.2.2.1 i
    have hin2 : pm_in (nI i) 2 := by rw [nI_in_iff (by omega)]; omega
    rw [if_neg (by rw [q2, nI_le_iff (by omega) (by omega)]; omega)]
    refine q_fz (fun o => qZs d M o ∨ ∃ a', qPs d M (i + 1) a' ∧ o = g (nI (i + 1)) a') (fun s K (g : Int32 → pm_M → Option (Int32 × pm_M)) => g (nI s) K) (fun s K => K = mu_L N 60 (qro (N.2 60) i (fun _ => 0) s)) 5 ?_ ?_ (by omega) (by rw [qro_0]; exact (uL_self N 60).symm)
    · rintro s K hs rfl g4
      have hin : pm_in (nI (5 * i + s)) 10 := by rw [nI_in_iff (by omega)]; omega
      refine ⟨_, rfl, ?_⟩
      have hck : (nI (5 * i + s)).toNatClampNeg = 5 * i + s := nI_clamp (by omega)
      rw [if_neg (by rw [q5, nI_le_iff (by omega) (by omega)]; omega), qcs, if_pos hin, q_lt, q_lt, hck, sL_u, uL_a, uL_uL, qro_set _ _ (fun _ => 0) _ (x := 0) rfl, ← nI_succ]
    · rintro K rfl g4
      have hR5 : qR (mu_L N 60 (qro (N.2 60) i (fun _ => 0) 5)) d := qR_1 h n1
      have hc2 : (nI i).toNatClampNeg = i := nI_clamp (by omega)
      simp only [eq_true hin2, hc2, if_true]
      rw [if_pos (by decide), hR5.2.2.2.2.1]
      generalize hH : qro (N.2 60) i (fun _ => 0) 5 = H at hR5
      have hHi : ∀ s, s < 5 → H (5 * i + s) = nL 0 := fun s hs => by rw [← hH, qro_at _ _ _ hs]
      have hHc : ∀ c s, c < i → s < 5 → H (5 * c + s) = nL (qdd d c s) := fun c s hc hs => by rw [← hH, qro_ne _ _ _ (by omega), n4 c s hc hs]
      by_cases hp : qP d i = 0
      · rw [if_neg (by rw [hp]; decide), q_lt]
        refine Or.inr ⟨mu_L N 60 H, ⟨n1, fun b hb hb2 => by rw [uL_0 _ _ _ _ hb2, n2 b hb hb2], fun c hc => ?_, fun c s hc hs => ?_, fun c s hc hs hpc => ?_⟩, by rw [← nI_succ]⟩
        · by_cases q : c = i
          · rw [q]; exact Or.inl hp
          · exact n3 c (by omega)
        · rw [uL_a]
          by_cases q : c = i
          · rw [q, hHi s hs]; unfold qdd; rw [if_pos hp]
          · exact hHc c s (by omega) hs
        · rw [uL_0 _ _ _ _ (by decide)]
          by_cases q : c = i
          · rw [q] at hpc; exact absurd hp hpc
          · exact n5 c s (by omega) hs hpc
      · rw [if_pos (by rw [q0, nI_inj (by omega) (by omega)]; exact hp), R_goesRound hd hR5 hi, q_bd]
        by_cases hg : qgo d i
        · rw [q2i_t hg, if_pos (by decide), R_visit hd hR5 hi hg, q_bv]
          have hM9 : ∀ f, qR (mu_L (mu_L (mu_L N 60 H) 59 (qro ((mu_L N 60 H).2 59) i (qvi d i) 5)) 60 f) d := fun f => qR_1 h n1
          have h59 : (mu_L (mu_L N 60 H) 59 (qro ((mu_L N 60 H).2 59) i (qvi d i) 5)).2 60 = H := by rw [uL_0 _ _ _ _ (by decide), uL_a]
          have h59b : (mu_L (mu_L N 60 H) 59 (qro ((mu_L N 60 H).2 59) i (qvi d i) 5)).2 59 = qro (N.2 59) i (qvi d i) 5 := by rw [uL_a, uL_0 _ _ _ _ (by decide)]
          have h59c : ∀ b, b ≠ 59 → b ≠ 60 → (mu_L (mu_L N 60 H) 59 (qro ((mu_L N 60 H).2 59) i (qvi d i) 5)).2 b = M.2 b := fun b hb hb2 => by rw [uL_0 _ _ _ _ hb, uL_0 _ _ _ _ hb2, n2 b hb hb2]
          have h59d : (mu_L (mu_L N 60 H) 59 (qro ((mu_L N 60 H).2 59) i (qvi d i) 5)).1 = M.1 := n1
          generalize mu_L (mu_L N 60 H) 59 (qro ((mu_L N 60 H).2 59) i (qvi d i) 5) = M9 at hM9 h59 h59b h59c h59d
          refine q_fx (fun o => qZs d M o ∨ ∃ a', qPs d M (i + 1) a' ∧ o = g (nI (i + 1)) a') (fun s K (g : Int32 → pm_M → Option (Int32 × pm_M)) => g (nI s) K) (fun s K => K = mu_L M9 60 (qro H i (qde d i) s) ∧ ∀ t, t < s → qde d i t ≤ 20) (qS d) ?_ ?_ (by omega) ⟨by rw [qro_0, ← h59]; exact (uL_self M9 60).symm, fun t ht => absurd ht (Nat.not_lt_zero t)⟩
          · rintro s K hs ⟨rfl, k2⟩ g10
            have hs5 : s < 5 := by omega
            have hin : pm_in (nI (5 * i + s)) 10 := by rw [nI_in_iff (by omega)]; omega
            have hvl := qvi_le hd hi s
            have hdl := qde_le hd hi s
            have htl := qtm_le hd i s
            have hv : (mu_L M9 60 (qro H i (qde d i) s)).2 59 (5 * i + s) = nL (qvi d i s) := by rw [uL_0 _ _ _ _ (by decide), h59b, qro_at _ _ _ hs5]
            have hck : (nI (5 * i + s)).toNatClampNeg = 5 * i + s := nI_clamp (by omega)
            simp only [qcs, eq_true hin, hck, if_true]
            rw [if_neg (by rw [(hM9 _).1, nI_le_iff (by omega) (by omega)]; omega), R_timeOf (hM9 _) hd hi hs5, q_bd, hv, nI_toL (by omega), nL_mul, q_lt, sL_u, uL_a M9, uL_uL, qro_set _ _ (qde d i) _ (x := nL (qvi d i s * qtm d i s)) rfl, uL_a, qro_at _ _ _ (by omega)]
            by_cases h20 : qde d i s ≤ 20
            · rw [if_pos (by rw [cmp_le, show (20 : Int64) = nL 20 from rfl, nL_le_iff (by omega) (by omega)]; exact h20), q_lt, ← nI_succ]
              refine Or.inr ⟨_, ⟨rfl, fun t ht => ?_⟩, rfl⟩
              by_cases q : t = s
              · rw [q]; exact h20
              · exact k2 t (by omega)
            · rw [if_neg (by rw [cmp_le, show (20 : Int64) = nL 20 from rfl, nL_le_iff (by omega) (by omega)]; exact h20)]
              have hns : ¬ qsnd d := fun q => by
                rcases qsnd_c q hi with z | z
                · exact hp z
                · exact h20 (z.2 s hs)
              refine Or.inl (Or.inl ⟨mu_L M9 60 (qro H i (qde d i) (s + 1)), by rw [q2i_f hns], h59d, fun b hb hb2 => by rw [uL_0 _ _ _ _ hb2, h59c b hb hb2], fun q => absurd q hns⟩)
          · rintro K ⟨rfl, k2⟩ g10
            rw [if_pos (by rw [(hM9 _).1]; exact Int32.le_refl _), q_lt, ← nI_succ]
            refine Or.inr ⟨mu_L M9 60 (qro H i (qde d i) (qS d)), ⟨h59d, fun b hb hb2 => by rw [uL_0 _ _ _ _ hb2, h59c b hb hb2], fun c hc => ?_, fun c s hc hs => ?_, fun c s hc hs hpc => ?_⟩, rfl⟩
            · by_cases q : c = i
              · rw [q]; exact Or.inr ⟨hg, k2⟩
              · exact n3 c (by omega)
            · rw [uL_a]
              by_cases q : c = i
              · rw [q]
                unfold qdd
                rw [if_neg hp]
                by_cases hsS : s < qS d
                · rw [qro_at _ _ _ hsS]
                · rw [qro_ne _ _ _ (by omega), hHi s hs, qde_out hd hi (by omega)]
              · rw [qro_ne _ _ _ (by omega)]
                exact hHc c s (by omega) hs
            · rw [uL_0 _ _ _ _ (by decide), h59b]
              by_cases q : c = i
              · rw [q, qro_at _ _ _ hs]
              · rw [qro_ne _ _ _ (by omega)]
                exact n5 c s (by omega) hs hpc
        · have hns : ¬ qsnd d := fun q => by
            rcases qsnd_c q hi with z | z
            · exact hp z
            · exact hg z.1
          rw [q2i_f hg, if_neg (by decide)]
          exact Or.inl ⟨mu_L N 60 H, by rw [q2i_f hns], n1, fun b hb hb2 => by rw [uL_0 _ _ _ _ hb2, n2 b hb hb2], fun q => absurd q hns⟩
  · rintro N ⟨n1, n2, n3, n4, n5⟩ g
    have hs : qsnd d := ⟨n3 0 (by omega), n3 1 (by omega)⟩
    rw [if_pos (by decide)]
    exact ⟨N, by rw [q2i_t hs], n1, n2, fun _ => ⟨n4, n5⟩⟩
/-! the class's side -/
/-- the tours are reckoned -/
def qTo (M : pm_M) (d : qD) : Prop := ∀ c, c < 2 → M.1 17 c = nI (qrc d c) ∧ M.1 18 c = q2i (qgo d c) ∧ M.1 16 c = q2i (qft d c) ∧ ∀ s, s < qS d → M.2 19 (5 * c + s) = nL (qvi d c s) ∧ M.2 20 (5 * c + s) = nL (qde d c s)
/-- the states are loaded -/
def qSt (M : pm_M) (d : qD) (D : Nat → Nat → Nat) : Prop := M.1 23 0 = nI (qS d) ∧ M.1 23 1 = nI (qP d 0) ∧ M.1 23 2 = nI (qP d 1) ∧ (∀ s, s < qS d → M.1 24 s = b2i (qK d s = 3)) ∧ ∀ c s, c < 2 → s < qS d → M.2 25 (5 * c + s) = nL (D c s)
theorem Tours_isSound {d : qD} {M : pm_M} (h : qTo M d) : sTours_isSound M = some (q2i (qsnd d), M) := by
  unfold sTours_isSound
  rw [(h 0 (by omega)).2.2.1, (h 1 (by omega)).2.2.1]
  by_cases h0 : qft d 0
  · rw [q2i_t h0, if_neg (by decide)]
    by_cases h1 : qft d 1
    · rw [q2i_t h1, if_neg (by decide), q2i_t ⟨h0, h1⟩]
    · rw [q2i_f h1, if_pos rfl, q2i_f (fun q => h1 q.2)]
  · rw [q2i_f h0, if_pos rfl, q2i_f (fun q => h0 q.1)]
theorem Tours_demandOf {d : qD} {M : pm_M} (h : qTo M d) {c s : Nat} (hc : c < 2) (hs : s < qS d) (hS : qS d ≤ 5) : sTours_demandOf (nI c) (nI s) M = some (nL (qde d c s), M) := by
  unfold sTours_demandOf
  rw [qcs', if_pos (by rw [nI_in_iff (by omega)]; omega), nI_clamp (by omega), ((h c hc).2.2.2 s hs).2]
theorem Tours_visitsOf {d : qD} {M : pm_M} (h : qTo M d) {c s : Nat} (hc : c < 2) (hs : s < qS d) (hS : qS d ≤ 5) : sTours_visitsOf (nI c) (nI s) M = some (nL (qvi d c s), M) := by
  unfold sTours_visitsOf
  rw [qcs', if_pos (by rw [nI_in_iff (by omega)]; omega), nI_clamp (by omega), ((h c hc).2.2.2 s hs).1]
theorem qTo_of {d : qD} {M M' : pm_M} (h : qTo M d) (e1 : ∀ b, 16 ≤ b → b ≤ 18 → M'.1 b = M.1 b) (e2 : ∀ b, 19 ≤ b → b ≤ 20 → M'.2 b = M.2 b) : qTo M' d := fun c hc => by
  rw [e1 16 (by omega) (by omega), e1 17 (by omega) (by omega), e1 18 (by omega) (by omega), e2 19 (by omega) (by omega), e2 20 (by omega) (by omega)]
  exact h c hc
theorem qSt_of {d : qD} {M M' : pm_M} {D : Nat → Nat → Nat} (h : qSt M d D) (e0 : ∀ k, k < 3 → M'.1 23 k = M.1 23 k) (e1 : M'.1 24 = M.1 24) (e2 : M'.2 25 = M.2 25) : qSt M' d D := by
  unfold qSt
  rw [e0 0 (by omega), e0 1 (by omega), e0 2 (by omega), e1, e2]
  exact h
def qZl (d : qD) (M : pm_M) (o : Option pm_M) : Prop := ∃ M', o = some M' ∧ (∀ b, b ≠ 23 → b ≠ 24 → M'.1 b = M.1 b) ∧ (∀ b, b ≠ 25 → M'.2 b = M.2 b) ∧ M'.1 23 3 = 0 ∧ qSt M' d (qdd d)
theorem States_load {d : qD} {M : pm_M} (hd : qOK d) (h : qC M d) (hT : qTo M d) : qZl d M (sStates_load M) := by
  have hS := hd.1
  unfold sStates_load
  rw [q_lt, q_lt, q_lt, q_lt]
  have a1 : ∀ x y z w b, b ≠ 23 → (pm_sI (pm_sI (pm_sI (pm_sI M 23 0 x) 23 1 y) 23 2 z) 23 3 w).1 b = M.1 b := fun x y z w b hb => by
    rw [sI_1, if_neg hb, sI_1, if_neg hb, sI_1, if_neg hb, sI_1, if_neg hb]
  generalize hM4 : pm_sI (pm_sI (pm_sI (pm_sI M 23 0 _) 23 1 _) 23 2 _) 23 3 _ = M4
  have e0 : M4.1 23 0 = nI (qS d) := by rw [← hM4]; exact h.1
  have e1 : M4.1 23 1 = nI (qP d 0) := by rw [← hM4]; exact h.2.2.2.2.1 0
  have e2 : M4.1 23 2 = nI (qP d 1) := by rw [← hM4]; exact h.2.2.2.2.1 1
  have e3 : M4.1 23 3 = 0 := by rw [← hM4]; rfl
  have e4 : ∀ b, b ≠ 23 → M4.1 b = M.1 b := fun b hb => by rw [← hM4, a1 _ _ _ _ b hb]
  have e5 : M4.2 = M.2 := by rw [← hM4]; rfl
  clear hM4 a1
  refine q_fz (qZl d M) (fun i N (g : Int32 → pm_M → Option pm_M) => g (nI i) N) (fun i N => (∀ b, b ≠ 24 → N.1 b = M4.1 b) ∧ (∀ b, b ≠ 25 → N.2 b = M.2 b) ∧ (∀ s, s < i → N.1 24 s = b2i (qK d s = 3)) ∧ ∀ s, s < i → N.2 25 s = nL (qdd d 0 s) ∧ N.2 25 (5 + s) = nL (qdd d 1 s)) (qS d) ?_ ?_ (by omega) ⟨fun b _ => rfl, fun b _ => by rw [e5], fun s hs => absurd hs (Nat.not_lt_zero s), fun s hs => absurd hs (Nat.not_lt_zero s)⟩
  · rintro i N hi ⟨n1, n2, n3, n4⟩ g
    have hi5 : i < 5 := by omega
    have hCN : ∀ b, b ≤ 22 → N.1 b = M.1 b := fun b hb => by rw [n1 b (by omega), e4 b (by omega)]
    have hK := hd.2.1 i
    have hin5 : pm_in (nI i) 5 := by rw [nI_in_iff (by omega)]; omega
    have hin10 : pm_in (nI i) 10 := by rw [nI_in_iff (by omega)]; omega
    have hin10' : pm_in (nI (5 + i)) 10 := by rw [nI_in_iff (by omega)]; omega
    have hp0 := hd.2.2.2.2.2.1 0
    have hp1 := hd.2.2.2.2.2.1 1
    have hck : (nI i).toNatClampNeg = i := nI_clamp (by omega)
    have e55 : (5 : Int32) + nI i = nI (5 + i) := by rw [q5, qI_add]
    have hck' : (nI (5 + i)).toNatClampNeg = 5 + i := nI_clamp (by omega)
    simp only [e55, eq_true hin5, eq_true hin10, eq_true hin10', hck, hck', if_true, true_and]
    rw [if_neg (by rw [n1 23 (by decide), e0, nI_le_iff (by omega) (by omega)]; omega), hCN 2 (by omega), h.2.1]
    let Y : Option pm_M → Prop := fun o => ∃ a' : pm_M, ((∀ b, b ≠ 24 → a'.1 b = M4.1 b) ∧ (∀ b, b ≠ 25 → a'.2 b = M.2 b) ∧ (∀ s, s < i + 1 → a'.1 24 s = b2i (qK d s = 3)) ∧ ∀ s, s < i + 1 → a'.2 25 s = nL (qdd d 0 s) ∧ a'.2 25 (5 + s) = nL (qdd d 1 s)) ∧ o = g (nI (i + 1)) a'
    refine q_jk Y (fun (j8 : Int32 → pm_M → Option pm_M) => Y (j8 (b2i (qK d i = 3)) N)) ?_ ?_
    · show Y (if _ then _ else none)
      rw [if_pos b2i_01, q_lt, sI_u]
      generalize hM11 : mu_I N 24 (upd (N.1 24) i (b2i (qK d i = 3))) = M11
      have f1 : ∀ b, b ≠ 24 → M11.1 b = M4.1 b := fun b hb => by rw [← hM11, uI_0 _ _ _ _ hb, n1 b hb]
      have f2 : M11.2 = N.2 := by rw [← hM11]; rfl
      have f3 : ∀ s, s < i + 1 → M11.1 24 s = b2i (qK d s = 3) := fun s hs => by
        rw [← hM11, uI_a]
        unfold upd
        by_cases q : s = i
        · rw [if_pos q, q]
        · rw [if_neg q]; exact n3 s (by omega)
      have hT11 : ∀ f, qTo (mu_L M11 25 f) d := fun f => qTo_of hT (fun b hb hb2 => by
        show M11.1 b = _
        rw [f1 b (by omega), e4 b (by omega)]) (fun b hb hb2 => by rw [uL_0 _ _ _ _ (by omega), f2, n2 b (by omega)])
      refine q_jk Y (fun (j12 : Int64 → pm_M → Option pm_M) => Y (j12 (nL (qdd d 0 i)) M11)) ?_ ?_
      · show Y (pm_lt _ _)
        rw [q_lt, sL_u]
        refine q_jk Y (fun (j16 : Int64 → pm_M → Option pm_M) => Y (j16 (nL (qdd d 1 i)) (mu_L M11 25 (vp_updL (M11.2 25) i (nL (qdd d 0 i)))))) ?_ ?_
        · show Y (pm_lt _ _)
          rw [q_lt, sL_u, uL_a, uL_uL, q_lt, ← nI_succ]
          refine ⟨mu_L M11 25 (vp_updL (vp_updL (M11.2 25) i (nL (qdd d 0 i))) (5 + i) (nL (qdd d 1 i))), ⟨f1, fun b hb => by rw [uL_0 _ _ _ _ hb, f2, n2 b hb], f3, fun s hs => ?_⟩, rfl⟩
          rw [uL_a, f2]
          unfold vp_updL
          by_cases q : s = i
          · subst q
            exact ⟨by rw [if_neg (by omega), if_pos rfl], by rw [if_pos rfl]⟩
          · rw [if_neg (by omega), if_neg q, if_neg (by omega), if_neg (by omega)]
            exact n4 s (by omega)
        · intro j16 hj
          have h23 : (mu_L M11 25 (vp_updL (M11.2 25) i (nL (qdd d 0 i)))).1 23 2 = nI (qP d 1) := by rw [uL_1, f1 23 (by decide), e2]
          rw [h23]
          by_cases hp : qP d 1 = 0
          · rw [if_pos (by rw [hp]; decide)]
            rw [show qdd d 1 i = 0 from if_pos hp] at hj
            exact hj
          · rw [if_neg (by rw [q0, nI_le_iff (by omega) (by omega)]; omega), q1, Tours_demandOf (hT11 _) (by omega) hi hS, q_bd]
            rw [show qdd d 1 i = qde d 1 i from if_neg hp] at hj
            exact hj
      · intro j12 hj
        rw [f1 23 (by decide), e1]
        by_cases hp : qP d 0 = 0
        · rw [if_pos (by rw [hp]; decide)]
          rw [show qdd d 0 i = 0 from if_pos hp] at hj
          exact hj
        · rw [if_neg (by rw [q0, nI_le_iff (by omega) (by omega)]; omega), q0, Tours_demandOf (M := M11) (by have := hT11 (M11.2 25); rwa [uL_self] at this) (by omega) hi hS, q_bd]
          rw [show qdd d 0 i = qde d 0 i from if_neg hp] at hj
          exact hj
    · intro j8 hj
      have hkk : nI (qK d i) = 3 ↔ qK d i = 3 := by rw [q3, nI_inj (by omega) (by omega)]
      by_cases hk : qK d i = 3
      · rw [if_neg (fun q => q (hkk.mpr hk))]
        rw [b2i_t hk] at hj
        exact hj
      · rw [if_pos (fun q => hk (hkk.mp q))]
        rw [b2i_f hk] at hj
        exact hj
  · rintro N ⟨n1, n2, n3, n4⟩ g
    rw [if_pos (by rw [n1 23 (by decide), e0]; exact Int32.le_refl _)]
    refine ⟨N, rfl, fun b hb hb2 => by rw [n1 b hb2, e4 b hb], n2, by rw [n1 23 (by decide), e3], by rw [n1 23 (by decide), e0], by rw [n1 23 (by decide), e1], by rw [n1 23 (by decide), e2], n3, ?_⟩
    intro c s hc hs
    match c, hc with
    | 0, _ => rw [Nat.mul_zero, Nat.zero_add]; exact (n4 s hs).1
    | 1, _ => exact (n4 s hs).2
    | k + 2, h => omega
