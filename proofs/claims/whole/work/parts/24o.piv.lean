/-! no closed set: the pivots stay more than 0 -/
/-- a row's sum -/
def qrs (a : Nat → Nat → Int) (i : Nat) : Nat → Int
  | 0 => 0
  | n + 1 => qrs a i n + a i n
def Kc (n : Nat) (a : Nat → Nat → Int) : Prop := (∀ i j, i < n → j < n → i ≠ j → a i j ≤ 0) ∧ (∀ i, i < n → 0 ≤ qrs a i n) ∧ ∀ T : Nat → Prop, (∃ i, i < n ∧ T i) → ∃ i, i < n ∧ T i ∧ (qrs a i n ≠ 0 ∨ ∃ j, j < n ∧ ¬ T j ∧ a i j ≠ 0)
theorem qrs_qm2 (a : Nat → Nat → Int) (i : Nat) : ∀ n, qrs (fun i j => qm2 a (i + 1) (j + 1)) i n = a 0 0 * qrs (fun i j => a (i + 1) (j + 1)) i n - a (i + 1) 0 * qrs (fun _ j => a 0 (j + 1)) 0 n
  | 0 => by show (0 : Int) = a 0 0 * 0 - a (i + 1) 0 * 0; rw [Int.mul_zero, Int.mul_zero]; rfl
  | n + 1 => by
    show qrs _ i n + qm2 a (i + 1) (n + 1) = a 0 0 * (qrs _ i n + a (i + 1) (n + 1)) - a (i + 1) 0 * (qrs _ 0 n + a 0 (n + 1))
    rw [qrs_qm2 a i n]
    unfold qm2
    rw [Int.mul_add, Int.mul_add]
    omega
theorem qrs_sh (a : Nat → Nat → Int) (i : Nat) : ∀ n, qrs a i (n + 1) = a i 0 + qrs (fun _ j => a i (j + 1)) 0 n
  | 0 => by show (0 : Int) + a i 0 = a i 0 + 0; omega
  | n + 1 => by
    show qrs a i (n + 1) + a i (n + 1) = a i 0 + (qrs _ 0 n + a i (n + 1))
    rw [qrs_sh a i n]
    omega
theorem qrs_ext {a b : Nat → Nat → Int} {i k : Nat} : ∀ n, (∀ j, j < n → a i j = b k j) → qrs a i n = qrs b k n
  | 0, _ => rfl
  | n + 1, h => by
    show qrs a i n + a i n = qrs b k n + b k n
    rw [qrs_ext n (fun j hj => h j (by omega)), h n (by omega)]
/-- a sum of what is at most 0, save one, is at most that one -/
theorem qrs_le {a : Nat → Nat → Int} {i : Nat} : ∀ n, (∀ j, j < n → a i j ≤ 0) → qrs a i n ≤ 0 ∧ (qrs a i n = 0 → ∀ j, j < n → a i j = 0)
  | 0, _ => ⟨Int.le_refl _, fun _ j h => absurd h (Nat.not_lt_zero j)⟩
  | n + 1, h => by
    obtain ⟨h1, h2⟩ := qrs_le n (fun j hj => h j (by omega))
    have h3 := h n (by omega)
    constructor
    · show qrs a i n + a i n ≤ 0; omega
    · intro hz
      have hz' : qrs a i n + a i n = 0 := hz
      intro j hj
      by_cases q : j = n
      · rw [q]; omega
      · exact h2 (by omega) j (by omega)
theorem Kc_00 {n : Nat} {a : Nat → Nat → Int} (h : Kc (n + 1) a) : 0 < a 0 0 := by
  have hs := qrs_sh a 0 n
  have hr := h.2.1 0 (by omega)
  obtain ⟨h1, h2⟩ := @qrs_le (fun _ j => a 0 (j + 1)) 0 n (fun j hj => h.1 0 (j + 1) (by omega) (by omega) (by omega))
  rcases Int.lt_trichotomy (a 0 0) 0 with q | q | q
  · omega
  · exfalso
    obtain ⟨i, hi, hT, hc⟩ := h.2.2 (fun k => k = 0) ⟨0, by omega, rfl⟩
    have hT' : i = 0 := hT
    subst hT'
    rcases hc with hc | ⟨j, hj, hjT, hc⟩
    · omega
    · have hj0 : j ≠ 0 := hjT
      obtain ⟨j, rfl⟩ : ∃ k, j = k + 1 := ⟨j - 1, by omega⟩
      exact hc (h2 (by omega) j (by omega))
  · exact q
theorem Kc_down {n : Nat} {a : Nat → Nat → Int} (h : Kc (n + 1) a) : Kc n (fun i j => qm2 a (i + 1) (j + 1)) := by
  have h0 := Kc_00 h
  have hrow : ∀ i, qrs (fun i j => qm2 a (i + 1) (j + 1)) i n = a 0 0 * qrs a (i + 1) (n + 1) - a (i + 1) 0 * qrs a 0 (n + 1) := fun i => by
    rw [qrs_qm2, qrs_sh a (i + 1) n, qrs_sh a 0 n, Int.mul_add, Int.mul_add, Int.mul_comm (a (i + 1) 0) (a 0 0)]
    rw [show qrs (fun i j => a (i + 1) (j + 1)) i n = qrs (fun _ j => a (i + 1) (j + 1)) 0 n from qrs_ext n (fun _ _ => rfl)]
    omega
  refine ⟨?_, ?_, ?_⟩
  · intro i j hi hj hij
    have q1 := h.1 (i + 1) (j + 1) (by omega) (by omega) (by omega)
    have q2 := h.1 (i + 1) 0 (by omega) (by omega) (by omega)
    have q3 := h.1 0 (j + 1) (by omega) (by omega) (by omega)
    have m1 := Int.mul_nonpos_of_nonneg_of_nonpos (Int.le_of_lt h0) q1
    have m2 := Int.mul_nonneg_of_nonpos_of_nonpos q2 q3
    show a 0 0 * a (i + 1) (j + 1) - a (i + 1) 0 * a 0 (j + 1) ≤ 0
    omega
  · intro i hi
    rw [hrow i]
    have q1 := h.2.1 (i + 1) (by omega)
    have q2 := h.1 (i + 1) 0 (by omega) (by omega) (by omega)
    have q3 := h.2.1 0 (by omega)
    have m1 := Int.mul_nonneg (Int.le_of_lt h0) q1
    have m2 := Int.mul_nonpos_of_nonpos_of_nonneg q2 q3
    omega
  · rintro T ⟨k, hk, hTk⟩
    have hneg : ∀ i j, i < n + 1 → j < n + 1 → i ≠ j → a i j ≠ 0 → a i j < 0 := fun i j hi hj hij hz => by
      have := h.1 i j hi hj hij
      omega
    by_cases hA : ∀ i, i < n → T i → a (i + 1) 0 = 0
    · obtain ⟨i, hi, ⟨m, rfl, hTm⟩, hc⟩ := h.2.2 (fun x => ∃ m, x = m + 1 ∧ T m) ⟨k + 1, by omega, k, rfl, hTk⟩
      have hm0 := hA m (by omega) hTm
      refine ⟨m, by omega, hTm, ?_⟩
      rcases hc with hc | ⟨j, hj, hjT, hc⟩
      · left
        rw [hrow m, hm0, Int.zero_mul, Int.sub_zero]
        exact Int.mul_ne_zero (by omega) hc
      · right
        have hj0 : j ≠ 0 := fun q => by rw [q] at hc; exact hc hm0
        obtain ⟨j, rfl⟩ : ∃ x, j = x + 1 := ⟨j - 1, by omega⟩
        refine ⟨j, by omega, fun q => hjT ⟨j, rfl, q⟩, ?_⟩
        show a 0 0 * a (m + 1) (j + 1) - a (m + 1) 0 * a 0 (j + 1) ≠ 0
        rw [hm0, Int.zero_mul, Int.sub_zero]
        exact Int.mul_ne_zero (by omega) hc
    · have hB : ∃ i, i < n ∧ T i ∧ a (i + 1) 0 ≠ 0 := by
        apply Classical.byContradiction
        intro q
        refine hA (fun i hi hT => ?_)
        apply Classical.byContradiction
        intro z
        exact q ⟨i, hi, hT, z⟩
      obtain ⟨b, hb, hTb, hb0⟩ := hB
      have hbn := hneg (b + 1) 0 (by omega) (by omega) (by omega) hb0
      obtain ⟨i, hi, hTi, hc⟩ := h.2.2 (fun x => x = 0 ∨ ∃ m, x = m + 1 ∧ T m) ⟨0, by omega, Or.inl rfl⟩
      have hR0 := h.2.1 0 (by omega)
      rcases hTi with rfl | ⟨m, rfl, hTm⟩
      · refine ⟨b, hb, hTb, ?_⟩
        rcases hc with hc | ⟨j, hj, hjT, hc⟩
        · left
          rw [hrow b]
          have q1 := Int.mul_nonneg (Int.le_of_lt h0) (h.2.1 (b + 1) (by omega))
          have q2 := Int.mul_neg_of_neg_of_pos hbn (show 0 < qrs a 0 (n + 1) by omega)
          omega
        · right
          have hj0 : j ≠ 0 := fun q => hjT (Or.inl q)
          obtain ⟨j, rfl⟩ : ∃ x, j = x + 1 := ⟨j - 1, by omega⟩
          have hjb : j ≠ b := fun q => hjT (Or.inr ⟨b, by rw [q], hTb⟩)
          refine ⟨j, by omega, fun q => hjT (Or.inr ⟨j, rfl, q⟩), ?_⟩
          have q0 := hneg 0 (j + 1) (by omega) (by omega) (by omega) hc
          have q1 := Int.mul_nonpos_of_nonneg_of_nonpos (Int.le_of_lt h0) (h.1 (b + 1) (j + 1) (by omega) (by omega) (by omega))
          have q2 := Int.mul_pos_of_neg_of_neg hbn q0
          show a 0 0 * a (b + 1) (j + 1) - a (b + 1) 0 * a 0 (j + 1) ≠ 0
          omega
      · refine ⟨m, by omega, hTm, ?_⟩
        have hm0 := h.1 (m + 1) 0 (by omega) (by omega) (by omega)
        rcases hc with hc | ⟨j, hj, hjT, hc⟩
        · left
          rw [hrow m]
          have hRm := h.2.1 (m + 1) (by omega)
          have q1 := Int.mul_pos h0 (show 0 < qrs a (m + 1) (n + 1) by omega)
          have q2 := Int.mul_nonpos_of_nonpos_of_nonneg hm0 hR0
          omega
        · right
          have hj0 : j ≠ 0 := fun q => hjT (Or.inl q)
          obtain ⟨j, rfl⟩ : ∃ x, j = x + 1 := ⟨j - 1, by omega⟩
          have hjm : j ≠ m := fun q => hjT (Or.inr ⟨m, by rw [q], hTm⟩)
          refine ⟨j, by omega, fun q => hjT (Or.inr ⟨j, rfl, q⟩), ?_⟩
          have q0 := hneg (m + 1) (j + 1) (by omega) (by omega) (by omega) hc
          have q1 := Int.mul_neg_of_pos_of_neg h0 q0
          have q2 := Int.mul_nonneg_of_nonpos_of_nonpos hm0 (h.1 0 (j + 1) (by omega) (by omega) (by omega))
          show a 0 0 * a (m + 1) (j + 1) - a (m + 1) 0 * a 0 (j + 1) ≠ 0
          omega
theorem Kc_Pv : ∀ n a, Kc n a → Pv n a
  | 0, _, _ => trivial
  | n + 1, _, h => ⟨Kc_00 h, Kc_Pv n _ (Kc_down h)⟩
