/-! the pivots are more than 0 -/
def Pv : Nat → (Nat → Nat → Int) → Prop
  | 0, _ => True
  | n + 1, a => 0 < a 0 0 ∧ Pv n (fun i j => qm2 a (i + 1) (j + 1))
theorem Pv_1 (a : Nat → Nat → Int) (h : Pv 1 a) : 0 < qdet a 1 := h.1
theorem Pv_2 (a : Nat → Nat → Int) (h : Pv 2 a) : 0 < qdet a 2 := h.2.1
theorem pos_of {x y : Int} (hy : 0 < y) (h : 0 < x * y) : 0 < x := by
  rcases Int.lt_trichotomy x 0 with q | q | q
  · have := Int.mul_neg_of_neg_of_pos q hy
    omega
  · rw [q, Int.zero_mul] at h; omega
  · exact q
theorem Pv_3 (a : Nat → Nat → Int) (h : Pv 3 a) : 0 < qdet a 3 := by
  have h3 : 0 < qm2 (fun i j => qm2 a (i + 1) (j + 1)) 1 1 := h.2.2.1
  refine pos_of h.1 ?_
  show 0 < qm3 a 2 2 * a 0 0
  rw [qm3_id]
  have e : qm2 (fun i j => qm2 a (i + 1) (j + 1)) 1 1 = qm2 a 1 1 * qm2 a 2 2 - qm2 a 2 1 * qm2 a 1 2 := rfl
  rw [e, Int.mul_comm (qm2 a 1 1)] at h3
  exact h3
theorem Pv_4 (a : Nat → Nat → Int) (h : Pv 4 a) : 0 < qdet a 4 := by
  have h0 : 0 < a 0 0 := h.1
  have h1 : 0 < qm2 a 1 1 := h.2.1
  have e : ∀ i j, qm2 (fun i j => qm2 a (i + 1) (j + 1)) (i + 1) (j + 1) = qm3 a (i + 2) (j + 2) * a 0 0 := fun i j => by
    rw [qm3_id, Int.mul_comm (qm2 a (i + 2) (j + 2))]
    rfl
  have h3 : 0 < qm2 (fun i j => qm2 (fun i j => qm2 a (i + 1) (j + 1)) (i + 1) (j + 1)) 1 1 := h.2.2.2.1
  have e2 : qm2 (fun i j => qm2 (fun i j => qm2 a (i + 1) (j + 1)) (i + 1) (j + 1)) 1 1 = qm4 a * qm2 a 1 1 * a 0 0 * a 0 0 := by
    rw [qm4_id]
    show qm2 (fun i j => qm2 a (i + 1) (j + 1)) (0 + 1) (0 + 1) * qm2 (fun i j => qm2 a (i + 1) (j + 1)) (1 + 1) (1 + 1) - qm2 (fun i j => qm2 a (i + 1) (j + 1)) (1 + 1) (0 + 1) * qm2 (fun i j => qm2 a (i + 1) (j + 1)) (0 + 1) (1 + 1) = _
    rw [e, e, e, e]
    generalize qm3 a (0 + 2) (0 + 2) = x
    generalize qm3 a (1 + 2) (1 + 2) = y
    generalize qm3 a (1 + 2) (0 + 2) = z
    generalize qm3 a (0 + 2) (1 + 2) = w
    grind
  rw [e2] at h3
  exact pos_of h1 (pos_of h0 (pos_of h0 h3))
theorem Pv_down : ∀ n a, Pv (n + 1) a → Pv n a
  | 0, _, _ => trivial
  | n + 1, _, h => ⟨h.1, Pv_down n _ h.2⟩
theorem Pv_det {n : Nat} {a : Nat → Nat → Int} (hn : n ≤ 4) (h : Pv n a) : ∀ k, k ≤ n → 0 < qdet a k := by
  have key : ∀ j k, k + j = n → Pv k a := by
    intro j
    induction j with
    | zero => intro k hk; rw [show k = n by omega]; exact h
    | succ j ih => intro k hk; exact Pv_down k a (ih (k + 1) (by omega))
  intro k hk
  have hk' := key (n - k) k (by omega)
  match k, hk' with
  | 0, _ => exact (by decide : (0 : Int) < 1)
  | 1, q => exact Pv_1 a q
  | 2, q => exact Pv_2 a q
  | 3, q => exact Pv_3 a q
  | 4, q => exact Pv_4 a q
  | k + 5, _ => omega
