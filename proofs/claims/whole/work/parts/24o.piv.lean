/-! no closed set: the pivots stay more than 0 -/
/-- a row's sum -/
def qrs (a : Nat → Nat → Int) (i : Nat) : Nat → Int
  | 0 => 0
  | n + 1 => qrs a i n + a i n
def Kc (n : Nat) (a : Nat → Nat → Int) : Prop := (∀ i j, i < n → j < n → i ≠ j → a i j ≤ 0) ∧ (∀ i, i < n → 0 ≤ qrs a i n) ∧ ∀ T : Nat → Prop, (∃ i, i < n ∧ T i) → ∃ i, i < n ∧ T i ∧ (qrs a i n ≠ 0 ∨ ∃ j, j < n ∧ ¬ T j ∧ a i j ≠ 0)
theorem qrs_qm2 (a : Nat → Nat → Int) (i : Nat) : ∀ n, qrs (fun i j => qm2 a (i + 1) (j + 1)) i n = a 0 0 * qrs (fun i j => a (i + 1) (j + 1)) i n - a (i + 1) 0 * qrs (fun _ j => a 0 (j + 1)) 0 n
  | 0 => by show (0 : Int) = a 0 0 * 0 - a (i + 1) 0 * 0; rw [Int.mul_zero, Int.mul_zero]; rfl
  | n + 1 => by
    show qrs _ i n + qm2 a (i + 1) (n + 1) = a 0 0 * (qrs _ i n + a (i + 1) (n + 1)) - a (i + 1) 0 * (qrs _ 0 n + a 0 (n + 1))
    rw [qrs_qm2 a i n]
    unfold qm2
    rw [Int.mul_add, Int.mul_add]
    omega
theorem qrs_sh (a : Nat → Nat → Int) (i : Nat) : ∀ n, qrs a i (n + 1) = a i 0 + qrs (fun _ j => a i (j + 1)) 0 n
  | 0 => by show (0 : Int) + a i 0 = a i 0 + 0; omega
  | n + 1 => by
    show qrs a i (n + 1) + a i (n + 1) = a i 0 + (qrs _ 0 n + a i (n + 1))
    rw [qrs_sh a i n]
    omega
