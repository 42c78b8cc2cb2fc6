/-! VISITS, DEMANDS: the numbers -/
/-- a loop that comes through the states 0 .. N, each with its memory, and ends well -/
theorem q_fz {α β ρ : Type} {bot : β} {F : β → β} (Z : Option ρ → Prop) (ap : Nat → α → β → Option ρ) (P : Nat → α → Prop) (N : Nat) (hs : ∀ i a, i < N → P i a → ∀ g, ∃ a', P (i + 1) a' ∧ ap i a (F g) = ap (i + 1) a' g) (he : ∀ a, P N a → ∀ g, Z (ap N a (F g))) {n : Nat} (hn : N < n) {a : α} (h0 : P 0 a) : Z (ap 0 a (pm_loop bot F n)) := by
  have key : ∀ k i m a, i + k = N → k < m → P i a → Z (ap i a (pm_loop bot F m)) := by
    intro k
    induction k with
    | zero =>
      intro i m a h1 h2 hP
      cases m with
      | zero => omega
      | succ m =>
        have : i = N := by omega
        subst this
        exact he _ hP _
    | succ k ih =>
      intro i m a h1 h2 hP
      cases m with
      | zero => omega
      | succ m =>
        rw [q_lp]
        obtain ⟨a', h3, h4⟩ := hs i a (by omega) hP (pm_loop bot F m)
        rw [h4]
        exact ih (i + 1) m a' (by omega) (by omega) h3
  exact key N 0 n a (by omega) hn h0
theorem q_jk {β ρ : Type} {J : β} {B : β → Option ρ} (Z : Option ρ → Prop) (P : β → Prop) (hJ : P J) (hB : ∀ j, P j → Z (B j)) : Z (pm_jn J B) := hB J hJ
theorem qdet_ab {a : Nat → Nat → Int} (h : ∀ i j, (a i j).natAbs ≤ 45) : ∀ n, n ≤ 4 → (qdet a n).natAbs ≤ 98415000
  | 0, _ => (by decide : (1 : Int).natAbs ≤ 98415000)
  | 1, _ => Nat.le_trans (h 0 0) (by decide)
  | 2, _ => Nat.le_trans (qm2_ab h 1 1) (by decide)
  | 3, _ => Nat.le_trans (qm3_ab h 2 2) (by decide)
  | 4, _ => qm4_ab h
  | n + 5, h => by omega
noncomputable def qms (d : qD) (c s : Nat) : Nat := qrc d c &&& (31 - 2 ^ s)
noncomputable def qtr (d : qD) (c s : Nat) : Nat := (qdet (qsub (qen d c) (qms d c s)) (qml (qms d c s)).length).toNat
noncomputable def qrw (d : qD) (c s : Nat) : Nat := @ite _ (qgo d c ∧ qin d c s) (Classical.propDecidable _) (qtr d c s * qwt d c s) 0
noncomputable def qgc (d : qD) (c : Nat) : Nat → Nat
  | 0 => 0
  | n + 1 => Nat.gcd (qgc d c n) (qrw d c n)
noncomputable def qvi (d : qD) (c s : Nat) : Nat := qrw d c s / qgc d c (qS d)
noncomputable def qde (d : qD) (c s : Nat) : Nat := qvi d c s * qtm d c s
theorem bi_sub31 : ∀ r, r < 32 → ∀ y, y < 5 → (r &&& (31 - 2 ^ y)) < 31 := by decide +kernel
theorem qms_lt (d : qD) (c : Nat) {s : Nat} (hs : s < 5) : qms d c s < 31 := bi_sub31 _ (qrc_lt d c) s hs
theorem qms_S {d : qD} (hd : qOK d) {c s : Nat} (hc : c < 2) (hs : s < 5) : ∀ j, j < 5 → qhas (qms d c s) j = true → j < qS d := fun j hj h =>
  qin_S hd hc ((qset_has _ hj).mp (bi_sub_sub _ (qrc_lt d c) _ (bi_pow s hs) j hj h))
theorem qtr_ok {d : qD} (hd : qOK d) {c s : Nat} (hc : c < 2) (hgo : qgo d c) (hs : qin d c s) : (qdet (qsub (qen d c) (qms d c s)) (qml (qms d c s)).length) = (qtr d c s : Int) ∧ 0 < qtr d c s ∧ qtr d c s ≤ 98415000 := by
  have hs5 : s < 5 := by have := qin_S hd hc hs; have := hd.1; omega
  have hl := qml_len _ (qms_lt d c hs5)
  have h1 := pos_net hd hc hgo hs (m := qms d c s) rfl hl _ (Nat.le_refl _)
  have h2 := qdet_ab (a := qsub (qen d c) (qms d c s)) (fun i j => by
    have := qen_le hd c ((qml (qms d c s)).getD i 0) ((qml (qms d c s)).getD j 0)
    unfold qsub
    omega) _ hl
  unfold qtr
  omega
theorem qrw_t {d : qD} {c s : Nat} (hg : qgo d c) (hi : qin d c s) : qrw d c s = qtr d c s * qwt d c s := if_pos ⟨hg, hi⟩
theorem qrw_f {d : qD} {c s : Nat} (h : ¬ (qgo d c ∧ qin d c s)) : qrw d c s = 0 := if_neg h
theorem qrw_le {d : qD} (hd : qOK d) {c : Nat} (hc : c < 2) (s : Nat) : qrw d c s ≤ 4428675000 := by
  by_cases h : qgo d c ∧ qin d c s
  · rw [qrw_t h.1 h.2]
    have h1 := (qtr_ok hd hc h.1 h.2).2.2
    have h2 := qwt_le hd c s
    exact Nat.le_trans (Nat.mul_le_mul h1 h2) (by decide)
  · rw [qrw_f h]; omega
theorem qgc_le {d : qD} (hd : qOK d) {c : Nat} (hc : c < 2) : ∀ n, qgc d c n ≤ 4428675000
  | 0 => by show 0 ≤ _; omega
  | n + 1 => by
    have h1 := qgc_le hd hc n
    have h2 := qrw_le hd hc n
    show Nat.gcd (qgc d c n) (qrw d c n) ≤ _
    by_cases h : qgc d c n = 0
    · rw [h, Nat.gcd_zero_left]; exact h2
    · exact Nat.le_trans (Nat.gcd_le_left _ (by omega)) h1
theorem qgc_0 {d : qD} {c : Nat} : ∀ n, qgc d c n = 0 → ∀ s, s < n → qrw d c s = 0
  | 0, _, s, hs => by omega
  | n + 1, h, s, hs => by
    have h' : Nat.gcd (qgc d c n) (qrw d c n) = 0 := h
    rw [Nat.gcd_eq_zero_iff] at h'
    by_cases q : s = n
    · rw [q]; exact h'.2
    · exact qgc_0 n h'.1 s (by omega)
theorem qrw_out {d : qD} (hd : qOK d) {c s : Nat} (hc : c < 2) (hs : qS d ≤ s) : qrw d c s = 0 := qrw_f (fun q => by have := qin_S hd hc q.2; omega)
theorem qgc_S {d : qD} (hd : qOK d) {c : Nat} (hc : c < 2) : ∀ j, qgc d c (qS d + j) = qgc d c (qS d)
  | 0 => rfl
  | j + 1 => by
    show Nat.gcd (qgc d c (qS d + j)) (qrw d c (qS d + j)) = _
    rw [qrw_out hd hc (Nat.le_add_right _ _), Nat.gcd_zero_right]
    exact qgc_S hd hc j
theorem qgc_5 {d : qD} (hd : qOK d) {c : Nat} (hc : c < 2) : qgc d c 5 = qgc d c (qS d) := by
  have := qgc_S hd hc (5 - qS d)
  rwa [show qS d + (5 - qS d) = 5 by have := hd.1; omega] at this
theorem qvi_le {d : qD} (hd : qOK d) {c : Nat} (hc : c < 2) (s : Nat) : qvi d c s ≤ 4428675000 := Nat.le_trans (Nat.div_le_self _ _) (qrw_le hd hc s)
theorem qtm_le {d : qD} (hd : qOK d) (c s : Nat) : qtm d c s ≤ 9 := by
  unfold qtm
  split
  · exact hd.2.2.1 _
  · exact hd.2.2.1 _
theorem qtm_1 {d : qD} (hd : qOK d) {c s : Nat} (hc : c < 2) (hs : s < qS d) : 1 ≤ qtm d c s := by
  unfold qtm
  split
  · have := hd.2.2.2.1 0 s (by omega) hs
    rwa [Nat.mul_zero, Nat.zero_add] at this
  · exact hd.2.2.2.1 c s hc hs
theorem qde_le {d : qD} (hd : qOK d) {c : Nat} (hc : c < 2) (s : Nat) : qde d c s ≤ 39858075000 :=
  Nat.le_trans (Nat.mul_le_mul (qvi_le hd hc s) (qtm_le hd c s)) (by decide)
theorem qvi_out {d : qD} (hd : qOK d) {c s : Nat} (hc : c < 2) (hs : qS d ≤ s) : qvi d c s = 0 := by
  unfold qvi
  rw [qrw_out hd hc hs, Nat.zero_div]
theorem qde_out {d : qD} (hd : qOK d) {c s : Nat} (hc : c < 2) (hs : qS d ≤ s) : qde d c s = 0 := by
  unfold qde
  rw [qvi_out hd hc hs, Nat.zero_mul]
/-- a row of a class written over -/
def qro (F : Nat → Int64) (c : Nat) (v : Nat → Nat) (n : Nat) : Nat → Int64 := fun k => if 5 * c ≤ k ∧ k < 5 * c + n then nL (v (k - 5 * c)) else F k
theorem qro_0 (F : Nat → Int64) (c : Nat) (v : Nat → Nat) : qro F c v 0 = F := by
  funext k
  unfold qro
  rw [if_neg (by omega)]
theorem qro_set (F : Nat → Int64) (c : Nat) (v : Nat → Nat) (n : Nat) {x : Int64} (hx : x = nL (v n)) : vp_updL (qro F c v n) (5 * c + n) x = qro F c v (n + 1) := by
  funext k
  unfold vp_updL qro
  by_cases h : k = 5 * c + n
  · rw [if_pos h, if_pos (by omega), hx, show k - 5 * c = n by omega]
  · rw [if_neg h]
    by_cases h2 : 5 * c ≤ k ∧ k < 5 * c + n
    · rw [if_pos h2, if_pos (by omega)]
    · rw [if_neg h2, if_neg (by omega)]
theorem qro_at (F : Nat → Int64) (c : Nat) (v : Nat → Nat) {n s : Nat} (h : s < n) : qro F c v n (5 * c + s) = nL (v s) := by
  unfold qro
  rw [if_pos (by omega), show 5 * c + s - 5 * c = s by omega]
theorem qro_ne (F : Nat → Int64) (c : Nat) (v : Nat → Nat) {n k : Nat} (h : k < 5 * c ∨ 5 * c + n ≤ k) : qro F c v n k = F k := by
  unfold qro
  rw [if_neg (by omega)]
theorem qro_qro (F : Nat → Int64) (c : Nat) (v w : Nat → Nat) (n : Nat) : qro (qro F c v n) c w n = qro F c w n := by
  funext k
  unfold qro
  by_cases h : 5 * c ≤ k ∧ k < 5 * c + n
  · rw [if_pos h, if_pos h]
  · rw [if_neg h, if_neg h, if_neg h]
theorem qro_cg (F : Nat → Int64) (c : Nat) {v w : Nat → Nat} (n : Nat) (h : ∀ s, s < n → v s = w s) : qro F c v n = qro F c w n := by
  funext k
  unfold qro
  by_cases q : 5 * c ≤ k ∧ k < 5 * c + n
  · rw [if_pos q, if_pos q, h _ (by omega)]
  · rw [if_neg q, if_neg q]
theorem updL_updL (f : Nat → Int64) (k : Nat) (x y : Int64) : vp_updL (vp_updL f k x) k y = vp_updL f k y := by
  funext j
  unfold vp_updL
  by_cases h : j = k
  · rw [if_pos h, if_pos h]
  · rw [if_neg h, if_neg h, if_neg h]
theorem updL_at (f : Nat → Int64) (k : Nat) (x : Int64) : vp_updL f k x k = x := if_pos rfl
theorem qcs (c s : Nat) : (5 : Int32) * nI c + nI s = nI (5 * c + s) := by rw [q5, nI_mul, qI_add]
theorem qcs' (c s : Nat) : nI c * (5 : Int32) + nI s = nI (5 * c + s) := by rw [q5, nI_mul, qI_add, Nat.mul_comm]
theorem qR_2 {d : qD} {M : pm_M} (h : qR M d) (a : Nat) (f : Nat → Int64) : qR (mu_L M a f) d := h
theorem R_visit {d : qD} {M : pm_M} (hd : qOK d) (h : qR M d) {c : Nat} (hc : c < 2) (hgo : qgo d c) : sR_visit (nI c) M = some (mu_L M 59 (qro (M.2 59) c (qvi d c) 5)) := by
  have hS := hd.1
  have hg5 := qgc_5 hd hc
  unfold sR_visit
  rw [R_reached hd h hc, q_bd]
  generalize hF : M.2 59 = F
  rw [show M = mu_L M 59 (qro F c (qrw d c) 0) by rw [qro_0, ← hF]; exact (uL_self M 59).symm]
  have h49 : ∀ f, (mu_L M 59 f).1 49 1 = nI (qS d) := fun f => h.1
  refine q_for (fun i (g : Int64 → Int32 → pm_M → Option (pm_M)) => g (nL (qgc d c i)) (nI i) (mu_L M 59 (qro F c (qrw d c) i))) (N := 5) ?_ ?_ (by omega)
  · intro i hi g
    have h5 : ¬ (5 : Int32) ≤ nI i := by rw [q5, nI_le_iff (by omega) (by omega)]; omega
    have hin : pm_in (nI (5 * c + i)) 10 := by rw [nI_in_iff (by omega)]; omega
    have hgl := qgc_le hd hc i
    have hrl := qrw_le hd hc i
    have hck : (nI (5 * c + i)).toNatClampNeg = 5 * c + i := nI_clamp (by omega)
    simp only [qcs, eq_true hin, hck, if_true]
    rw [if_neg h5, q_lt, sL_u, uL_uL, h49]
    simp only [uL_2, if_true]
    by_cases hiS : qS d ≤ i
    · have hz := qrw_out hd hc hiS
      rw [if_pos ((nI_le_iff (by omega) (by omega)).mpr hiS), q_lt, qro_set F c (qrw d c) i (by rw [hz]; rfl), ← nI_succ, show qgc d c (i + 1) = Nat.gcd (qgc d c i) (qrw d c i) from rfl, hz, Nat.gcd_zero_right]
    · rw [if_neg (fun q => hiS ((nI_le_iff (by omega) (by omega)).mp q)), bi_get (qrc_lt d c) hi]
      by_cases hb : qhas (qrc d c) i = true
      · have hqi : qin d c i := (qset_has _ hi).mp hb
        obtain ⟨t1, t2, t3⟩ := qtr_ok hd hc hgo hqi
        have hml := qms_lt d c hi
        have hcn := qcnt_le (qms d c i)
        have hdt : qdt (qen d c) 8 (qms d c i) (qms d c i) = (qtr d c i : Int) := by rw [qdt_all _ _ hml, t1]
        have hqr := qrw_t hgo hqi
        rw [if_pos hb, if_pos (by decide), q_lt, bi_sh i hi, bi_not _ (qrc_lt d c) _ (bi_pow i hi), R_weights hd (qR_2 h _ _) hc hi, q_bd]
        rw [show qrc d c &&& (31 - 2 ^ i) = qms d c i from rfl, R_determinant hd (qR_2 h _ _) hc 8 _ _ (by omega) (by omega) (qms_S hd hc hi) (by omega), q_bd, q_lt, sL_u, uL_uL, hdt, iL_nat, nI_toL (by have := qwt_le hd c i; omega), nL_mul]
        simp only [uL_2, if_true]
        rw [updL_updL, qro_set F c (qrw d c) i (by rw [hqr, Nat.mul_comm]), qro_at F c (qrw d c) (by omega), R_common (by omega) (by omega), q_bd, q_lt, ← nI_succ]
        rfl
      · have hz : qrw d c i = 0 := qrw_f (fun q => hb ((qset_has _ hi).mpr q.2))
        rw [if_neg hb, if_neg (by decide), q_lt, qro_set F c (qrw d c) i (by rw [hz]; rfl), ← nI_succ, show qgc d c (i + 1) = Nat.gcd (qgc d c i) (qrw d c i) from rfl, hz, Nat.gcd_zero_right]
  · intro g
    have hgl := qgc_le hd hc 5
    rw [if_pos (by decide), uL_uL]
    by_cases h1 : qgc d c 5 ≤ 1
    · have hq : ∀ s, s < 5 → qrw d c s = qvi d c s := fun s hs => by
        unfold qvi
        rw [← hg5]
        by_cases h0 : qgc d c 5 = 0
        · rw [qgc_0 5 h0 s hs, Nat.zero_div]
        · rw [show qgc d c 5 = 1 by omega, Nat.div_one]
      rw [q_lp, if_neg (by decide), if_pos (by rw [cmp_le]; exact (nL_le_iff (b := 1) (by omega) (by omega)).mpr h1), qro_cg F c 5 hq]
    · have hz : ¬ nL (qgc d c 5) = 0 := fun q => by rw [nL_0 (by omega)] at q; omega
      have h1' : ¬ lg_cmp (nL (qgc d c 5)) 1 ≤ 0 := fun q => h1 ((nL_le_iff (b := 1) (by omega) (by omega)).mp ((cmp_le _ _).mp q))
      rw [show qro F c (qrw d c) 5 = qro (qro F c (qrw d c) 5) c (qvi d c) 0 from (qro_0 _ _ _).symm]
      rw [← qro_qro F c (qrw d c) (qvi d c) 5]
      generalize hG : qro F c (qrw d c) 5 = G
      refine q_for (fun i (g : Int32 → pm_M → Option (pm_M)) => g (nI i) (mu_L M 59 (qro G c (qvi d c) i))) (N := 5) ?_ ?_ (by omega)
      · intro i hi g
        have h5 : ¬ (5 : Int32) ≤ nI i := by rw [q5, nI_le_iff (by omega) (by omega)]; omega
        have hin : pm_in (nI (5 * c + i)) 10 := by rw [nI_in_iff (by omega)]; omega
        have hrl := qrw_le hd hc i
        have hGi : qro G c (qvi d c) i (5 * c + i) = nL (qrw d c i) := by rw [qro_ne _ _ _ (by omega), ← hG, qro_at _ _ _ hi]
        have hck : (nI (5 * c + i)).toNatClampNeg = 5 * c + i := nI_clamp (by omega)
        simp only [qcs, eq_true hin, hck, if_true]
        rw [if_neg h5, if_neg h1', if_pos hz, q_lt, q_lt, sL_u, uL_uL]
        simp only [uL_2, if_true]
        rw [hGi, nL_div (by omega) (by omega) (by omega), qro_set _ _ _ _ (by unfold qvi; rw [hg5]), ← nI_succ]
      · intro g
        rw [if_pos (by decide)]
