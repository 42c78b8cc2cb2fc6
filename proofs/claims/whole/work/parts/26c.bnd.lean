/-! CONSTANTS: bounds, and that they are above 0; fractions -/
def qri (m : Nat) : Nat → Nat
  | 0 => 1
  | k + 1 => qri m k * (m + k)
theorem qsm_le {f g : Nat → Nat} : ∀ n, (∀ i, i < n → f i ≤ g i) → qsm f n ≤ qsm g n
  | 0, _ => Nat.le_refl _
  | n + 1, h => Nat.add_le_add (qsm_le n (fun i hi => h i (by omega))) (h n (by omega))
theorem qsm_cg {f g : Nat → Nat} : ∀ n, (∀ i, i < n → f i = g i) → qsm f n = qsm g n
  | 0, _ => rfl
  | n + 1, h => by
    show qsm f n + f n = qsm g n + g n
    rw [qsm_cg n (fun i hi => h i (by omega)), h n (by omega)]
theorem qsm_mul (c : Nat) (f : Nat → Nat) : ∀ n, qsm (fun i => c * f i) n = c * qsm f n
  | 0 => (Nat.mul_zero c).symm
  | n + 1 => by
    show qsm (fun i => c * f i) n + c * f n = c * (qsm f n + f n)
    rw [qsm_mul c f n, Nat.mul_add]
theorem qsm_at {f : Nat → Nat} {i : Nat} : ∀ n, i < n → f i ≤ qsm f n
  | 0, h => by omega
  | n + 1, h => by
    show f i ≤ qsm f n + f n
    by_cases q : i = n
    · rw [q]; omega
    · have := qsm_at (f := f) (i := i) n (by omega)
      omega
theorem qri_up (m : Nat) : ∀ k, qri m k ≤ qri (m + 1) k
  | 0 => Nat.le_refl _
  | k + 1 => Nat.mul_le_mul (qri_up m k) (by omega)
theorem qri_le {m n : Nat} (k : Nat) (h : m ≤ n) : qri m k ≤ qri n k := by
  induction h with
  | refl => exact Nat.le_refl _
  | step _ ih => exact Nat.le_trans ih (qri_up _ k)
def qrs2 (m x y : Nat) : Nat := qsm (fun a => qsm (fun b => qch x a * qch y b * (qfa (a + b) * qri m (x + y - (a + b)))) (y + 1)) (x + 1)
theorem bi_ri : ∀ m, m < 6 → ∀ x, x < 7 → ∀ y, y < 7 → x + y < 9 → qrs2 m x y ≤ qri (m + 1) (x + y) := by decide +kernel
theorem qfa_1 : ∀ n, 1 ≤ qfa n
  | 0 => Nat.le_refl _
  | n + 1 => Nat.mul_pos (Nat.succ_pos n) (qfa_1 n)
theorem qhp_le {D : Nat → Nat → Nat} (K : Nat → Nat) (hD : ∀ c s, c < 2 → D c s ≤ 20) (s a b : Nat) : qhp D K s a b ≤ 20 ^ (a + b) * qfa (a + b) := by
  unfold qhp
  rw [Nat.pow_add]
  refine Nat.mul_le_mul (Nat.mul_le_mul (Nat.pow_le_pow_left (hD 0 s (by omega)) a) (Nat.pow_le_pow_left (hD 1 s (by omega)) b)) ?_
  split
  · exact qfa_1 _
  · exact Nat.le_refl _
theorem qgw_le {D : Nat → Nat → Nat} (K : Nat → Nat) (hD : ∀ c s, c < 2 → D c s ≤ 20) {T : Nat → Nat → Nat} {r : Nat} (hr : r < 6) (hT : ∀ x y, x ≤ 6 → y ≤ 6 → x + y ≤ 8 → T x y ≤ 20 ^ (x + y) * qri r (x + y)) (s : Nat) {x y : Nat} (hx : x ≤ 6) (hy : y ≤ 6) (h8 : x + y ≤ 8) : qgw D K T s x y ≤ 20 ^ (x + y) * qri (r + 1) (x + y) := by
  have h1 : qgw D K T s x y ≤ qsm (fun a => qsm (fun b => 20 ^ (x + y) * (qch x a * qch y b * (qfa (a + b) * qri r (x + y - (a + b))))) (y + 1)) (x + 1) := by
    refine qsm_le _ (fun a ha => qsm_le _ (fun b hb => ?_))
    have e1 : x - a + (y - b) = x + y - (a + b) := by omega
    have h2 := hT (x - a) (y - b) (by omega) (by omega) (by omega)
    rw [e1] at h2
    have h3 := qhp_le K hD s a b
    have h4 : (20 : Nat) ^ (x + y) = 20 ^ (a + b) * 20 ^ (x + y - (a + b)) := by rw [← Nat.pow_add]; congr 1; omega
    unfold qws2
    refine Nat.le_trans (Nat.mul_le_mul (Nat.mul_le_mul_left _ h3) h2) (Nat.le_of_eq ?_)
    rw [h4]
    ac_rfl
  refine Nat.le_trans h1 ?_
  have e : ∀ a, a < x + 1 → qsm (fun b => 20 ^ (x + y) * (qch x a * qch y b * (qfa (a + b) * qri r (x + y - (a + b))))) (y + 1) = 20 ^ (x + y) * qsm (fun b => qch x a * qch y b * (qfa (a + b) * qri r (x + y - (a + b)))) (y + 1) := fun a _ => qsm_mul _ _ _
  rw [qsm_cg _ e, qsm_mul]
  exact Nat.mul_le_mul_left _ (bi_ri r hr x (by omega) y (by omega) (by omega))
def qrr (z m : Nat) : Nat := if z < m then m - 1 else m
theorem qcn_le {D : Nat → Nat → Nat} (K : Nat → Nat) (hD : ∀ c s, c < 2 → D c s ≤ 20) (z : Nat) : ∀ m, m ≤ 5 → ∀ x y, x ≤ 6 → y ≤ 6 → x + y ≤ 8 → qcn D K z m x y ≤ 20 ^ (x + y) * qri (qrr z m) (x + y)
  | 0, _, x, y, _, _, _ => by
    show (if x = 0 ∧ y = 0 then 1 else 0) ≤ _
    by_cases h : x = 0 ∧ y = 0
    · rw [if_pos h, h.1, h.2]; exact Nat.le_refl 1
    · rw [if_neg h]; exact Nat.zero_le _
  | m + 1, hm, x, y, hx, hy, h8 => by
    have ih := qcn_le K hD z m (by omega)
    show (if m = z then qcn D K z m x y else qgw D K (qcn D K z m) m x y) ≤ _
    by_cases h : m = z
    · have := ih x y hx hy h8
      rw [if_pos h]
      unfold qrr at this ⊢
      rw [if_neg (by omega)] at this
      rw [if_pos (by omega), Nat.add_sub_cancel]
      exact this
    · rw [if_neg h]
      have hr : qrr z (m + 1) = qrr z m + 1 := by
        unfold qrr
        by_cases q : z < m
        · rw [if_pos q, if_pos (by omega)]; omega
        · rw [if_neg q, if_neg (by omega)]
      rw [hr]
      have hr6 : qrr z m < 6 := by unfold qrr; split <;> omega
      exact qgw_le K hD hr6 ih m hx hy h8
theorem bi_b8 : ∀ k, k < 9 → 20 ^ k * qri 5 k ≤ 510935040000000000 := by decide +kernel
theorem bi_b7 : ∀ k, k < 8 → 20 ^ k * qri 5 k ≤ 2128896000000000 := by decide +kernel
theorem qcn_8 {D : Nat → Nat → Nat} (K : Nat → Nat) (hD : ∀ c s, c < 2 → D c s ≤ 20) (z : Nat) {m x y : Nat} (hm : m ≤ 5) (hx : x ≤ 6) (hy : y ≤ 6) (h8 : x + y ≤ 8) : qcn D K z m x y ≤ 510935040000000000 := by
  refine Nat.le_trans (qcn_le K hD z m hm x y hx hy h8) (Nat.le_trans (Nat.mul_le_mul_left _ (qri_le _ ?_)) (bi_b8 _ (by omega)))
  unfold qrr
  split <;> omega
theorem qcn_7 {D : Nat → Nat → Nat} (K : Nat → Nat) (hD : ∀ c s, c < 2 → D c s ≤ 20) (z : Nat) {m x y : Nat} (hm : m ≤ 5) (hx : x ≤ 6) (hy : y ≤ 6) (h8 : x + y ≤ 7) : qcn D K z m x y ≤ 2128896000000000 := by
  refine Nat.le_trans (qcn_le K hD z m hm x y hx hy (by omega)) (Nat.le_trans (Nat.mul_le_mul_left _ (qri_le _ ?_)) (bi_b7 _ (by omega)))
  unfold qrr
  split <;> omega
theorem qch_0 (n : Nat) : qch n 0 = 1 := by cases n <;> rfl
theorem qch_big : ∀ n k, n < k → qch n k = 0
  | 0, k + 1, _ => rfl
  | n + 1, k + 1, h => by
    show qch n k + qch n (k + 1) = 0
    rw [qch_big n k (by omega), qch_big n (k + 1) (by omega)]
  | _, 0, h => by omega
theorem qch_n : ∀ n, qch n n = 1
  | 0 => rfl
  | n + 1 => by
    show qch n n + qch n (n + 1) = 1
    rw [qch_n n, qch_big n (n + 1) (by omega)]
theorem qhp_pos {D : Nat → Nat → Nat} {K : Nat → Nat} {s a b : Nat} (h0 : a = 0 ∨ 0 < D 0 s) (h1 : b = 0 ∨ 0 < D 1 s) : 0 < qhp D K s a b := by
  unfold qhp
  refine Nat.mul_pos (Nat.mul_pos ?_ ?_) ?_
  · rcases h0 with rfl | h
    · exact Nat.one_pos
    · exact Nat.pow_pos h
  · rcases h1 with rfl | h
    · exact Nat.one_pos
    · exact Nat.pow_pos h
  · split
    · exact Nat.one_pos
    · exact qfa_1 _
theorem qgw_at {D : Nat → Nat → Nat} {K : Nat → Nat} {T : Nat → Nat → Nat} {s x y a b : Nat} (ha : a ≤ x) (hb : b ≤ y) : qws2 D K T s x y a b ≤ qgw D K T s x y :=
  Nat.le_trans (qsm_at (f := fun b => qws2 D K T s x y a b) (i := b) (y + 1) (by omega)) (qsm_at (f := fun a => qsm (fun b => qws2 D K T s x y a b) (y + 1)) (i := a) (x + 1) (by omega))
theorem qcn_pos {D : Nat → Nat → Nat} (K : Nat → Nat) (z : Nat) : ∀ m x y, (x = 0 ∨ ∃ s, s < m ∧ s ≠ z ∧ 0 < D 0 s) → (y = 0 ∨ ∃ s, s < m ∧ s ≠ z ∧ 0 < D 1 s) → 0 < qcn D K z m x y
  | 0, x, y, h0, h1 => by
    have hx : x = 0 := by
      rcases h0 with h | ⟨s, hs, -⟩
      · exact h
      · omega
    have hy : y = 0 := by
      rcases h1 with h | ⟨s, hs, -⟩
      · exact h
      · omega
    show 0 < (if x = 0 ∧ y = 0 then 1 else 0)
    rw [if_pos ⟨hx, hy⟩]
    exact Nat.one_pos
  | m + 1, x, y, h0, h1 => by
    have ih := qcn_pos (D := D) K z m
    show 0 < (if m = z then qcn D K z m x y else qgw D K (qcn D K z m) m x y)
    by_cases h : m = z
    · rw [if_pos h]
      refine ih x y ?_ ?_
      · rcases h0 with q | ⟨s, h2, h3, h4⟩
        · exact Or.inl q
        · exact Or.inr ⟨s, by omega, h3, h4⟩
      · rcases h1 with q | ⟨s, h2, h3, h4⟩
        · exact Or.inl q
        · exact Or.inr ⟨s, by omega, h3, h4⟩
    · rw [if_neg h]
      have key : ∀ (c n : Nat), (n = 0 ∨ ∃ s, s < m + 1 ∧ s ≠ z ∧ 0 < D c s) → ∃ a, (a = 0 ∨ a = n) ∧ (a = 0 ∨ 0 < D c m) ∧ (n - a = 0 ∨ ∃ s, s < m ∧ s ≠ z ∧ 0 < D c s) := by
        intro c n hn
        rcases hn with q | ⟨s, h2, h3, h4⟩
        · exact ⟨0, Or.inl rfl, Or.inl rfl, Or.inl (by omega)⟩
        · by_cases w : s = m
          · exact ⟨n, Or.inr rfl, Or.inr (w ▸ h4), Or.inl (by omega)⟩
          · exact ⟨0, Or.inl rfl, Or.inl rfl, Or.inr ⟨s, by omega, h3, h4⟩⟩
      obtain ⟨a, a1, a2, a3⟩ := key 0 x h0
      obtain ⟨b, b1, b2, b3⟩ := key 1 y h1
      have hle : ∀ n k : Nat, k = 0 ∨ k = n → k ≤ n := by
        rintro n k (rfl | rfl)
        · exact Nat.zero_le _
        · exact Nat.le_refl _
      refine Nat.lt_of_lt_of_le ?_ (qgw_at (a := a) (b := b) (hle _ _ a1) (hle _ _ b1))
      unfold qws2
      have hc : ∀ n k, k = 0 ∨ k = n → 0 < qch n k := by
        rintro n k (rfl | rfl)
        · rw [qch_0]; exact Nat.one_pos
        · rw [qch_n]; exact Nat.one_pos
      exact Nat.mul_pos (Nat.mul_pos (Nat.mul_pos (hc _ _ a1) (hc _ _ b1)) (qhp_pos a2 b2)) (ih _ _ a3 b3)
/-! fractions in lowest terms -/
def qfrc (a b l : Nat) : Nat := if l = 0 then a / Nat.gcd a b else b / Nat.gcd a b
theorem C_fraction {a b l : Nat} (ha : a < 2 ^ 62) (hb : b < 2 ^ 62) (h0 : 0 < b) (hl : l < 2) (M : pm_M) : sC_fraction (nL a) (nL b) (nI l) M = some (nL (qfrc a b l), M) := by
  have hg : 0 < Nat.gcd a b := Nat.gcd_pos_of_pos_right _ h0
  have hg2 : Nat.gcd a b ≤ b := Nat.gcd_le_right _ h0
  have d1 : ¬ nL (Nat.gcd a b) = 0 := by rw [nL_0 (by omega)]; omega
  have el : nI l = 0 ↔ l = 0 := by rw [q0, nI_inj (by omega) (by omega)]
  unfold sC_fraction qfrc
  rw [C_common ha hb, q_bd, if_neg (by rw [cmp_le, show (0 : Int64) = nL 0 from rfl, nL_le_iff (by omega) (by omega)]; omega), if_pos (by rw [cmp_gt, show (0 : Int64) = nL 0 from rfl, nL_lt_iff (by omega) (by omega)]; omega)]
  by_cases q : l = 0
  · rw [if_neg (fun w => w (el.mpr q)), if_pos q, if_pos d1, nL_div (by omega) (by omega) hg]
  · rw [if_pos (fun w => q (el.mp w)), if_neg q, if_pos d1, nL_div (by omega) (by omega) hg]
theorem R_part {a b l : Nat} (ha : a < 2 ^ 62) (hb : b < 2 ^ 62) (h0 : 0 < b) (hl : l < 2) (M : pm_M) : sR_part (nL a) (nL b) (nI l) M = some (nL (qfrc a b l), M) := by
  have hg : 0 < Nat.gcd a b := Nat.gcd_pos_of_pos_right _ h0
  have hg2 : Nat.gcd a b ≤ b := Nat.gcd_le_right _ h0
  have d1 : ¬ nL (Nat.gcd a b) = 0 := by rw [nL_0 (by omega)]; omega
  have el : nI l = 0 ↔ l = 0 := by rw [q0, nI_inj (by omega) (by omega)]
  unfold sR_part qfrc
  rw [R_common ha hb, q_bd]
  by_cases q : l = 0
  · rw [if_neg (fun w => w (el.mpr q)), if_pos q, if_pos d1, nL_div (by omega) (by omega) hg]
  · rw [if_pos (fun w => q (el.mp w)), if_neg q, if_pos d1, nL_div (by omega) (by omega) hg]
/-! a class that goes round has visits above 0 wherever it reaches -/
theorem qgc_dvd {d : qD} {c : Nat} : ∀ n s, s < n → qgc d c n ∣ qrw d c s
  | 0, s, h => by omega
  | n + 1, s, h => by
    show Nat.gcd (qgc d c n) (qrw d c n) ∣ _
    by_cases q : s = n
    · rw [q]; exact Nat.gcd_dvd_right _ _
    · exact Nat.dvd_trans (Nat.gcd_dvd_left _ _) (qgc_dvd n s (by omega))
theorem qwt_pos {d : qD} (hd : qOK d) {c s t : Nat} (hc : c < 2) (h : qE d c s t) : 0 < qwt d c s := by
  have h1 := qw_qwt hd hc h.1 h.2.1
  have h2 := qE_w hd h
  omega
theorem qRp_E {d : qD} {c s t : Nat} (h : qRp d c s t) : ∃ x, qE d c s x := by
  obtain ⟨n, h⟩ := h
  cases n with
  | zero => exact ⟨t, h⟩
  | succ n =>
    obtain ⟨x, h1, -⟩ := h
    exact ⟨x, h1⟩
theorem qwt_in {d : qD} (hd : qOK d) {c s : Nat} (hc : c < 2) (hg : qgo d c) (hi : qin d c s) : 0 < qwt d c s := by
  obtain ⟨y, hy, hr⟩ := hg
  obtain ⟨x, hx⟩ := qRp_E (hr s hi)
  exact qwt_pos hd hc hx
theorem qvi_pos {d : qD} (hd : qOK d) {c s : Nat} (hc : c < 2) (hg : qgo d c) (hi : qin d c s) : 0 < qvi d c s := by
  have hs := qin_S hd hc hi
  have h1 : 0 < qrw d c s := by
    rw [qrw_t hg hi]
    exact Nat.mul_pos (qtr_ok hd hc hg hi).2.1 (qwt_in hd hc hg hi)
  unfold qvi
  have h2 := qgc_dvd (d := d) (c := c) (qS d) s hs
  exact Nat.div_pos (Nat.le_of_dvd h1 h2) (Nat.pos_of_ne_zero (fun q => by rw [q, Nat.zero_dvd] at h2; omega))
theorem qhome {d : qD} (hd : qOK d) {c : Nat} (hc : c < 2) (hg : qgo d c) : ∃ y, qH d c = y + 1 ∧ y < qS d ∧ qin d c y := by
  obtain ⟨y, hy, hr⟩ := hg
  have hi : qin d c y := ⟨y, hy, Or.inl rfl⟩
  exact ⟨y, hy, qin_S hd hc hi, hi⟩
/-- a sound net's class with parts has a demand above 0 somewhere -/
theorem qdd_pos {d : qD} (hd : qOK d) (h : qsnd d) {c : Nat} (hc : c < 2) (hp : qP d c ≠ 0) : ∃ s, s < qS d ∧ 0 < qdd d c s := by
  rcases qsnd_c h hc with q | q
  · exact absurd q hp
  · obtain ⟨y, -, hy, hi⟩ := qhome hd hc q.1
    refine ⟨y, hy, ?_⟩
    unfold qdd
    rw [if_neg hp]
    exact Nat.mul_pos (qvi_pos hd hc q.1 hi) (qtm_1 hd hc hy)
