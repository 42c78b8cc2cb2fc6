/-! THE LIKELIEST: the reference's weight and walk -/
theorem qpd_mul (f g : Nat → Nat) : ∀ n, qpd f n * qpd g n = qpd (fun i => f i * g i) n
  | 0 => rfl
  | n + 1 => by
    show qpd f n * f n * (qpd g n * g n) = qpd (fun i => f i * g i) n * (f n * g n)
    rw [← qpd_mul f g n]
    ac_rfl
theorem bi_che : ∀ l, l < 7 → ∀ n, n < l + 1 → qch l n * qfa n * qfa (l - n) = qfa l := by decide +kernel
def qcc (d : qD) (σ : Nat → Nat) (i : Nat) : Nat := qch (qP d 0 - qsu σ 0 i) (σ i) * qch (qP d 1 - qsu σ 1 i) (σ (5 + i))
theorem qwg_hp (d : qD) (σ : Nat → Nat) : qwg d σ = qpd (qcc d σ) (qS d) * qpd (fun i => qhp (qdd d) (qK d) i (σ i) (σ (5 + i))) (qS d) := by
  unfold qwg qpw
  rw [qpd_mul, qpd_mul]
  refine qpd_cg _ (fun i _ => ?_)
  unfold qfx qcc qhp
  rw [Nat.mul_zero, Nat.zero_add, if_neg (show ¬ ((0 : Nat) = 1 ∧ qK d i ≠ 3) from fun q => absurd q.1 (by decide)), Nat.mul_one, show 5 * 1 + i = 5 + i from rfl]
  have e : (if (1 : Nat) = 1 ∧ qK d i ≠ 3 then qfa (σ i + σ (5 + i)) else 1) = (if qK d i = 3 then 1 else qfa (σ i + σ (5 + i))) := by
    by_cases k : qK d i = 3
    · rw [if_neg (fun q => q.2 k), if_pos k]
    · rw [if_pos ⟨rfl, k⟩, if_neg k]
  rw [e]
  ac_rfl
theorem R_weight {N : pm_M} {d : qD} (hd : qOK d) (hR : qR N d) (hF : qFa N) (hD : ∀ c s, c < 2 → s < 5 → N.2 60 (5 * c + s) = nL (qdd d c s)) {σ : Nat → Nat} (h64 : ∀ c i, c < 2 → i < qS d → N.1 64 (5 * c + i) = nI (σ (5 * c + i))) (h0 : qsu σ 0 (qS d) = qP d 0) (h1 : qsu σ 1 (qS d) = qP d 1) : sR_weight N = some (nL (qwg d σ), N) := by
  have hS := hd.1
  have hP0 := hd.2.2.2.2.2.1 0
  have hP1 := hd.2.2.2.2.2.1 1
  have h88 := hd.2.2.2.2.2.2.1
  have i0 : pm_in (nI (qP d 0)) 9 := by rw [nI_in_iff (by omega)]; omega
  have i1 : pm_in (nI (qP d 1)) 9 := by rw [nI_in_iff (by omega)]; omega
  have c0 : (nI (qP d 0)).toNatClampNeg = qP d 0 := nI_clamp (by omega)
  have c1 : (nI (qP d 1)).toNatClampNeg = qP d 1 := nI_clamp (by omega)
  have hs0 : ∀ i, i < qS d → N.1 64 i = nI (σ i) ∧ qsu σ 0 i + σ i ≤ qP d 0 := fun i hi => by
    have e := h64 0 i (by omega) hi
    rw [Nat.mul_zero, Nat.zero_add] at e
    refine ⟨e, ?_⟩
    have := qsu_le σ 0 (show i + 1 ≤ qS d by omega)
    rw [qsu_s, Nat.mul_zero, Nat.zero_add] at this
    omega
  have hs1 : ∀ i, i < qS d → N.1 64 (5 + i) = nI (σ (5 + i)) ∧ qsu σ 1 i + σ (5 + i) ≤ qP d 1 := fun i hi => by
    refine ⟨h64 1 i (by omega) hi, ?_⟩
    have := qsu_le σ 1 (show i + 1 ≤ qS d by omega)
    rw [qsu_s, Nat.mul_one] at this
    omega
  have b0 := bi_f2 (qP d 0) (by omega) (qP d 1) (by omega)
  -- what stands at each stage
  have hv : ∀ i, i ≤ qS d → qpd (qcc d σ) i * (qfa (qP d 0 - qsu σ 0 i) * qfa (qP d 1 - qsu σ 1 i)) < 1000000 ∧ (i < qS d → qpd (qcc d σ) i * (qfa (qP d 0 - qsu σ 0 i) * qfa (qP d 1 - qsu σ 1 i)) / (qfa (σ i) * qfa (σ (5 + i))) = qpd (qcc d σ) (i + 1) * (qfa (qP d 0 - qsu σ 0 (i + 1)) * qfa (qP d 1 - qsu σ 1 (i + 1)))) := by
    have step : ∀ i, i < qS d → qpd (qcc d σ) i * (qfa (qP d 0 - qsu σ 0 i) * qfa (qP d 1 - qsu σ 1 i)) = qpd (qcc d σ) (i + 1) * (qfa (qP d 0 - qsu σ 0 (i + 1)) * qfa (qP d 1 - qsu σ 1 (i + 1))) * (qfa (σ i) * qfa (σ (5 + i))) := by
      intro i hi
      have a0 := (hs0 i hi).2
      have a1 := (hs1 i hi).2
      have e0 : qP d 0 - qsu σ 0 (i + 1) = qP d 0 - qsu σ 0 i - σ i := by rw [qsu_s, Nat.mul_zero, Nat.zero_add]; omega
      have e1 : qP d 1 - qsu σ 1 (i + 1) = qP d 1 - qsu σ 1 i - σ (5 + i) := by rw [qsu_s, Nat.mul_one]; omega
      have f0 := bi_che (qP d 0 - qsu σ 0 i) (by omega) (σ i) (by omega)
      have f1 := bi_che (qP d 1 - qsu σ 1 i) (by omega) (σ (5 + i)) (by omega)
      rw [e0, e1, ← f0, ← f1]
      show _ = qpd (qcc d σ) i * qcc d σ i * _ * _
      unfold qcc
      ac_rfl
    intro i
    induction i with
    | zero =>
      intro _
      refine ⟨by show 1 * (qfa (qP d 0 - 0) * qfa (qP d 1 - 0)) < _; rw [Nat.one_mul]; exact b0.2, fun hi => ?_⟩
      rw [step 0 hi]
      exact Nat.mul_div_cancel _ (Nat.mul_pos (qfa_1 _) (qfa_1 _))
    | succ i ih =>
      intro hi
      obtain ⟨j1, j2⟩ := ih (by omega)
      have j3 := j2 (by omega)
      refine ⟨by rw [← j3]; exact Nat.lt_of_le_of_lt (Nat.div_le_self _ _) j1, fun hi2 => ?_⟩
      rw [step (i + 1) hi2]
      exact Nat.mul_div_cancel _ (Nat.mul_pos (qfa_1 _) (qfa_1 _))
  unfold sR_weight
  rw [hR.2.2.2.2.1, hR.2.2.2.2.1, if_pos i0, if_pos i1, c0, c1, hF _ (by omega), hF _ (by omega), nL_mul, q_lt]
  rw [show qfa (qP d 0) * qfa (qP d 1) = qpd (qcc d σ) 0 * (qfa (qP d 0 - qsu σ 0 0) * qfa (qP d 1 - qsu σ 1 0)) from (Nat.one_mul _).symm]
  refine q_for (fun i (g : Int64 → Int32 → pm_M → Option (Int64 × pm_M)) => g (nL (qpd (qcc d σ) i * (qfa (qP d 0 - qsu σ 0 i) * qfa (qP d 1 - qsu σ 1 i)))) (nI i) N) (N := qS d) ?_ ?_ (by omega)
  · intro i hi g
    obtain ⟨v1, v2⟩ := hv i (by omega)
    obtain ⟨x0, y0⟩ := hs0 i hi
    obtain ⟨x1, y1⟩ := hs1 i hi
    have j1 : pm_in (nI i) 10 := by rw [nI_in_iff (by omega)]; omega
    have j2 : pm_in (nI (5 + i)) 10 := by rw [nI_in_iff (by omega)]; omega
    have j3 : pm_in (nI (σ i)) 9 := by rw [nI_in_iff (by omega)]; omega
    have j4 : pm_in (nI (σ (5 + i))) 9 := by rw [nI_in_iff (by omega)]; omega
    have d1 : (nI i).toNatClampNeg = i := nI_clamp (by omega)
    have d2 : (nI (5 + i)).toNatClampNeg = 5 + i := nI_clamp (by omega)
    have d3 : (nI (σ i)).toNatClampNeg = σ i := nI_clamp (by omega)
    have d4 : (nI (σ (5 + i))).toNatClampNeg = σ (5 + i) := nI_clamp (by omega)
    have l1 := bi_f2 (σ i) (by omega) (σ (5 + i)) (by omega)
    have ne : ¬ nL (qfa (σ i) * qfa (σ (5 + i))) = 0 := by rw [nL_0 (by omega)]; omega
    simp only [q5s, eq_true j1, eq_true j2, d1, d2, x0, x1, eq_true j3, eq_true j4, d3, d4, if_true, hF _ (show σ i ≤ 8 by omega), hF _ (show σ (5 + i) ≤ 8 by omega), nL_mul]
    rw [hR.1, if_neg (by rw [nI_le_iff (by omega) (by omega)]; omega), if_pos ne, q_lt, q_lt, nL_div (by omega) (by omega) l1.1, v2 hi, ← nI_succ]
  · intro g
    rw [hR.1, if_pos (Int32.le_refl _), h0, h1, Nat.sub_self, Nat.sub_self, show qfa 0 * qfa 0 = 1 from rfl, Nat.mul_one, qwg_hp]
    generalize qpd (qcc d σ) (qS d) = X
    rw [show nL X = nL (X * qpd (fun i => qhp (qdd d) (qK d) i (σ i) (σ (5 + i))) 0) by rw [show qpd (fun i => qhp (qdd d) (qK d) i (σ i) (σ (5 + i))) 0 = 1 from rfl, Nat.mul_one]]
    refine q_for (fun i (g : Int64 → Int32 → pm_M → Option (Int64 × pm_M)) => g (nL (X * qpd (fun i => qhp (qdd d) (qK d) i (σ i) (σ (5 + i))) i)) (nI i) N) (N := qS d) ?_ ?_ (by omega)
    · intro i hi g
      obtain ⟨x0, y0⟩ := hs0 i hi
      obtain ⟨x1, y1⟩ := hs1 i hi
      have j1 : pm_in (nI i) 10 := by rw [nI_in_iff (by omega)]; omega
      have j2 : pm_in (nI (5 + i)) 10 := by rw [nI_in_iff (by omega)]; omega
      have d1 : (nI i).toNatClampNeg = i := nI_clamp (by omega)
      have d2 : (nI (5 + i)).toNatClampNeg = 5 + i := nI_clamp (by omega)
      simp only [q5s, eq_true j1, eq_true j2, d1, d2, x0, x1, if_true]
      rw [hR.1, if_neg (by rw [nI_le_iff (by omega) (by omega)]; omega), R_heap hd hR hF (D := qdd d) (by omega) (fun c hc => hD c i hc (by omega)) (by omega), q_bd, q_lt, q_lt, nL_mul, ← nI_succ, Nat.mul_assoc]
      rfl
    · intro g
      rw [hR.1, if_pos (Int32.le_refl _)]
def qRc (d : qD) (M0 M : pm_M) (c s : Nat) (σ : Nat → Nat) (b : qB) : Prop := (∀ x, x ≠ 64 → x ≠ 65 → M.1 x = M0.1 x) ∧ (∀ x, x ≠ 49 → M.2 x = M0.2 x) ∧ (∀ c' i, i < qS d → c' < c ∨ (c' = c ∧ i < s) → M.1 64 (5 * c' + i) = nI (σ (5 * c' + i))) ∧ M.2 49 20 = (if b.1 = 0 then -1 else nL b.1) ∧ b.1 < 2 ^ 62 ∧ ∀ c' i, c' < 2 → i < qS d → M.1 65 (5 * c' + i) = nI (b.2 (5 * c' + i))
def qSimR (d : qD) (M0 : pm_M) (c s : Nat) (F : (Nat → Nat) → qB → qB) (f : Nat) : Prop := ∀ M σ b, qRc d M0 M c s σ b → qva d σ c s → ∃ M', sR_walk f (nI (c * qS d + s)) (nI (qP d c - qsu σ c s)) M = some M' ∧ qRc d M0 M' c s σ (F σ b)
theorem qRc_set {d : qD} {M0 M : pm_M} {c s n : Nat} {σ : Nat → Nat} {b : qB} (h : qRc d M0 M c s σ b) (hS : qS d ≤ 5) (hs : s < qS d) : qRc d M0 (pm_sI M 64 (5 * c + s) (nI n)) c (s + 1) (fupd σ (5 * c + s) n) b := by
  obtain ⟨h1, h2, h3, h4, h5, h6⟩ := h
  refine ⟨fun x hx hx2 => ?_, h2, fun c' i hi hci => ?_, h4, h5, fun c' i hc' hi => ?_⟩
  · rw [sI_1, if_neg hx]
    exact h1 x hx hx2
  · rw [sI_1, if_pos rfl]
    unfold upd fupd
    by_cases q : 5 * c' + i = 5 * c + s
    · rw [if_pos q, if_pos q]
    · rw [if_neg q, if_neg q]
      exact h3 c' i hi (by omega)
  · rw [sI_1, if_neg (by decide)]
    exact h6 c' i hc' hi
theorem qRc_back {d : qD} {M0 M : pm_M} {c s n : Nat} {σ : Nat → Nat} {b : qB} (hS : qS d ≤ 5) (hs : s < qS d) (h : qRc d M0 M c (s + 1) (fupd σ (5 * c + s) n) b) : qRc d M0 M c s σ b := by
  obtain ⟨h1, h2, h3, h4, h5, h6⟩ := h
  refine ⟨h1, h2, fun c' i hi hci => ?_, h4, h5, h6⟩
  rw [h3 c' i hi (by omega), fupd_ne σ n (show 5 * c' + i ≠ 5 * c + s by omega)]
theorem bi_dm : ∀ S, S < 6 → ∀ c, c < 2 → ∀ s, s < S → nI (c * S + s) / nI S = nI c ∧ nI (c * S + s) - nI c * nI S = nI s ∧ ¬ nI S = 0 := by decide +kernel
/-- what stands still for the reference's walk -/
def qRw (M0 : pm_M) (d : qD) : Prop := qR M0 d ∧ qFa M0 ∧ ∀ c s, c < 2 → s < 5 → M0.2 60 (5 * c + s) = nL (qdd d c s)
theorem qRw_c {d : qD} {M0 M : pm_M} {c s : Nat} {σ : Nat → Nat} {b : qB} (h : qRw M0 d) (k : qRc d M0 M c s σ b) : qRw M d :=
  ⟨qR_of h.1 (by rw [k.1 49 (by decide) (by decide)]) (fun x _ _ => k.1 x (by omega) (by omega)), fun j hj => by rw [k.2.1 61 (by decide)]; exact h.2.1 j hj, fun c' s' hc' hs' => by rw [k.2.1 60 (by decide)]; exact h.2.2 c' s' hc' hs'⟩
theorem R_lays {c s : Nat} (hc : c < 2) (hs : s < 5) (v : Int32) (M : pm_M) : sR_lays (nI c) (nI s) v M = some (pm_sI M 64 (5 * c + s) v) := by
  unfold sR_lays
  rw [qcs, if_pos (by rw [nI_in_iff (by omega)]; omega), q_lt, nI_clamp (by omega)]
theorem qSimR_step {d : qD} (hd : qOK d) (hsn : qsnd d) {M0 : pm_M} (hW : qRw M0 d) {c s f : Nat} (hc : c < 2) (hs : s + 1 < qS d) {G : (Nat → Nat) → qB → qB} (ih : qSimR d M0 c (s + 1) G f) : qSimR d M0 c s (qstp d c s G) (f + 1) := by
  have hS := hd.1
  intro M σ b hM hv
  have hPc := hd.2.2.2.2.2.1 c
  have hWM := qRw_c hW hM
  have h20 := qdd_20 hd hsn c s hc
  obtain ⟨d1, d2, d3⟩ := bi_dm (qS d) (by omega) c hc s (by omega)
  generalize hL : qP d c - qsu σ c s = L
  let Z : Option pm_M → Prop := fun o => ∃ M', o = some M' ∧ qRc d M0 M' c s σ (qstp d c s G σ b)
  let st : Nat → qB → qB := fun n b => if n = 0 ∨ 0 < qdd d c s then G (fupd σ (5 * c + s) n) b else b
  have hR : qstp d c s G σ b = qdw st 0 (L + 1) b := by
    unfold qstp
    rw [hL, if_neg (by omega)]
    rfl
  have hin : pm_in (nI (5 * c + s)) 10 := by rw [nI_in_iff (by omega)]; omega
  have hck : (nI (5 * c + s)).toNatClampNeg = 5 * c + s := nI_clamp (by omega)
  show Z (if ¬ (M.1 49 1) = 0 then _ else none)
  rw [hWM.1.1, if_pos d3, d1, q_lt, if_pos d3, d2, q_lt, if_pos (by rw [q1, nI_sub (by omega), nI_inj (by omega) (by omega)]; omega), qcs, if_pos hin, hck, hWM.2.2 c s hc (by omega)]
  have main : ∀ N0, N0 ≤ L → qdw st 0 (N0 + 1) b = qdw st 0 (L + 1) b → (N0 = 0 ∨ 0 < qdd d c s) → Z (pm_loop (fun _ _ => none) (fun (g6 : Int32 → pm_M → Option (pm_M)) x8 M7 => if x8 < 0 then (some M7) else (pm_bv (sR_lays (nI c) (nI s) x8 M7) fun M9 => pm_bv (sR_walk f (nI (c * qS d + s) + (1 : Int32)) (nI L - x8) M9) fun M10 => pm_lt ((x8 + (-1 : Int32))) fun x11 => g6 x11 M10)) 1000000 (nI N0) M) := by
    intro N0 hN hq hD0
    refine q_dl Z (fun j N (g : Int32 → pm_M → Option pm_M) => g (hI j) N) (fun j N => j ≤ N0 + 1 ∧ ∃ bj, qRc d M0 N c s σ bj ∧ qdw st 0 j bj = qdw st 0 (L + 1) b) 0 ?_ ?_ (N := N0 + 1) (n := 1000000) (a := M) (by omega) (by omega) ⟨Nat.le_refl _, b, hM, hq⟩
    · rintro j N - ⟨hjL, bj, k1, k2⟩ g
      have hD : j = 0 ∨ 0 < qdd d c s := hD0.elim (fun q => Or.inl (by omega)) Or.inr
      have hv' : qva d (fupd σ (5 * c + s) j) c (s + 1) := qva_step hc (by omega) hS hv (by omega) (fun q => by omega) hD
      obtain ⟨M', e1, k3⟩ := ih _ _ bj (qRc_set (n := j) k1 hS (by omega)) hv'
      have eq : qP d c - qsu (fupd σ (5 * c + s) j) c (s + 1) = L - j := by
        rw [qsu_s, qsu_ne σ j (fun j hj => by omega), fupd_at]
        omega
      rw [eq] at e1
      rw [show hI (j + 1) = nI j from rfl, if_neg (nI_nneg (by omega)), R_lays hc (by omega), q_bv, ← nI_succ, nI_sub (by omega), show c * qS d + s + 1 = c * qS d + (s + 1) from rfl, e1, q_bv, q_lt, show nI j + (-1 : Int32) = hI j from hI_dn (j := j) (by omega)]
      refine ⟨M', ⟨by omega, _, qRc_back hS (by omega) k3, ?_⟩, rfl⟩
      rw [← k2]
      show qdw st 0 j _ = qdw st 0 j (st (0 + j) bj)
      rw [Nat.zero_add]
      congr 1
      exact (if_pos hD).symm
    · rintro N ⟨-, bj, k1, k2⟩ g
      rw [if_pos (by decide)]
      refine ⟨N, rfl, ?_⟩
      rw [hR, ← k2]
      exact k1
  have hD0 : lg_cmp (nL (qdd d c s)) 0 = 0 ↔ qdd d c s = 0 := by rw [cmp_eq]; exact nL_0 (by omega)
  rw [q_jn]
  by_cases z : qdd d c s = 0
  · rw [if_neg (fun q => q (hD0.mpr z))]
    refine main 0 (by omega) ?_ (Or.inl rfl)
    have key : ∀ m, qdw st 0 (m + 1) b = qdw st 0 1 b := by
      intro m
      induction m with
      | zero => rfl
      | succ m ihm =>
        rw [← ihm]
        show qdw st 0 (m + 1) (st (0 + (m + 1)) b) = _
        congr 1
        exact if_neg (by omega)
    exact (key L).symm
  · rw [if_pos (fun q => z (hD0.mp q))]
    exact main L (Nat.le_refl _) rfl (Or.inr (by omega))
