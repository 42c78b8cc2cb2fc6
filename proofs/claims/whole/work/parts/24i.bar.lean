theorem qbk_ab {a : Nat → Nat → Int} (h : ∀ i j, (a i j).natAbs ≤ 45) (i j : Nat) : ∀ k, k ≤ 2 → (qbk a k i j).natAbs ≤ 546750
  | 0, _ => Nat.le_trans (h i j) (by decide)
  | 1, _ => Nat.le_trans (qm2_ab h i j) (by decide)
  | 2, _ => qm3_ab h i j
  | k + 3, q => by omega
theorem qbk_id (a : Nat → Nat → Int) {i j : Nat} : ∀ k, k < i → i < 4 → k < j → j < 4 → qbk a k i j * qbk a k k k - qbk a k i k * qbk a k k j = qbk a (k + 1) i j * qdet a k
  | 0, _, _, _, _ => by
    show a i j * a 0 0 - a i 0 * a 0 j = qm2 a i j * 1
    unfold qm2
    rw [Int.mul_one, Int.mul_comm (a i j)]
  | 1, _, _, _, _ => (qm3_id a i j).symm
  | 2, h1, h2, h3, h4 => by
    obtain rfl : i = 3 := by omega
    obtain rfl : j = 3 := by omega
    exact (qm4_id a).symm
  | k + 3, h1, h2, _, _ => by omega
theorem qst_bk {a : Nat → Nat → Int} (h : ∀ i j, (a i j).natAbs ≤ 45) {n : Nat} (hn : n ≤ 4) {F : Nat → Int64} (hF : ∀ i j, i < n → j < n → F (5 * i + j) = iL (a i j)) (hp : ∀ k, k < n → qdet a k ≠ 0) : ∀ k, k ≤ n → (∀ i j, k ≤ i → i < n → k ≤ j → j < n → (qst n F k).1 (5 * i + j) = iL (qbk a k i j)) ∧ (qst n F k).2 = iL (qdet a k)
  | 0, _ => ⟨fun i j _ hi _ hj => hF i j hi hj, rfl⟩
  | k + 1, hk => by
    obtain ⟨h1, h2⟩ := qst_bk h hn hF hp k (by omega)
    have hkk := h1 k k (Nat.le_refl _) (by omega) (Nat.le_refl _) (by omega)
    rw [show 5 * k + k = 6 * k by omega] at hkk
    constructor
    · intro i j hi hin hj hjn
      show qel (qst n F k).1 k ((qst n F k).1 (6 * k)) (qst n F k).2 n n (k + 1) (5 * i + j) = _
      unfold qel
      have e1 : (5 * i + j) / 5 = i := by omega
      have e2 : (5 * i + j) % 5 = j := by omega
      rw [if_pos (by omega), e1, e2, Nat.mul_comm i 5, h1 i j (by omega) hin (by omega) hjn, h1 i k (by omega) hin (Nat.le_refl _) (by omega), h1 k j (Nat.le_refl _) (by omega) (by omega) hjn, hkk, h2, iL_mul, iL_mul, iL_sub]
      have b1 := qbk_ab h i j k (by omega)
      have b2 := qbk_ab h k k k (by omega)
      have b3 := qbk_ab h i k k (by omega)
      have b4 := qbk_ab h k j k (by omega)
      have hd : (qdet a k).natAbs ≤ 546750 := by
        cases k with
        | zero => exact (by decide : (1 : Int).natAbs ≤ 546750)
        | succ m => rw [qdet_bk a m (by omega)]; exact qbk_ab h m m m (by omega)
      exact iL_div (qbk_id a k (by omega) (by omega) (by omega) (by omega)) (hp k (by omega)) (Nat.le_trans (ab_sub (ab_mul b1 b2) (ab_mul b3 b4)) (by decide)) (Nat.le_trans hd (by decide))
    · show (qst n F k).1 (6 * k) = _
      rw [hkk, qdet_bk a k (by omega)]
/-- the class's determinant over cells that hold a, if no pivot is 0 -/
theorem C_determinant {a : Nat → Nat → Int} (h : ∀ i j, (a i j).natAbs ≤ 45) {n : Nat} (hn : n ≤ 4) {M : pm_M} (hF : ∀ i j, i < n → j < n → M.2 22 (5 * i + j) = iL (a i j)) (hp : ∀ k, k ≤ n → qdet a k ≠ 0) : ∃ f, sTours_determinant (nI n) M = some (iL (qdet a n), mu_L M 22 f) := by
  have hb := qst_bk h hn hF (fun k hk => hp k (by omega))
  refine ⟨(qst n (M.2 22) n).1, ?_⟩
  rw [← (hb n (Nat.le_refl _)).2]
  refine Tours_determinant (by omega) ?_
  intro k hk
  have hkk := (hb k (by omega)).1 k k (Nat.le_refl _) hk (Nat.le_refl _) hk
  rw [show 5 * k + k = 6 * k by omega] at hkk
  rw [hkk, ← qdet_bk a k (by omega)]
  have hb2 : (qdet a (k + 1)).natAbs ≤ 98415000 := by
    rw [qdet_bk a k (by omega)]
    by_cases q : k ≤ 2
    · exact Nat.le_trans (qbk_ab h k k k q) (by decide)
    · obtain rfl : k = 3 := by omega
      exact qm4_ab h
  rw [Ne, iL_0 (by omega) (by omega)]
  exact hp (k + 1) (by omega)
