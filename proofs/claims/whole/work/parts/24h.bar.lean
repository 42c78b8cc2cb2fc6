theorem ab_mul {x y : Int} {A B : Nat} (h1 : x.natAbs ≤ A) (h2 : y.natAbs ≤ B) : (x * y).natAbs ≤ A * B := by
  rw [Int.natAbs_mul]; exact Nat.mul_le_mul h1 h2
theorem ab_add {x y : Int} {A B : Nat} (h1 : x.natAbs ≤ A) (h2 : y.natAbs ≤ B) : (x + y).natAbs ≤ A + B := by omega
theorem ab_sub {x y : Int} {A B : Nat} (h1 : x.natAbs ≤ A) (h2 : y.natAbs ≤ B) : (x - y).natAbs ≤ A + B := by omega
theorem qm2_ab {a : Nat → Nat → Int} (h : ∀ i j, (a i j).natAbs ≤ 45) (i j : Nat) : (qm2 a i j).natAbs ≤ 4050 := ab_sub (ab_mul (h _ _) (h _ _)) (ab_mul (h _ _) (h _ _))
theorem qm3_ab {a : Nat → Nat → Int} (h : ∀ i j, (a i j).natAbs ≤ 45) (i j : Nat) : (qm3 a i j).natAbs ≤ 546750 := by
  have k : ∀ i j p q r s, (a i j * a p q - a r s * a i q).natAbs ≤ 4050 := fun i j p q r s => ab_sub (ab_mul (h _ _) (h _ _)) (ab_mul (h _ _) (h _ _))
  have k2 : ∀ x y z w, x.natAbs ≤ 45 → y.natAbs ≤ 45 → z.natAbs ≤ 45 → w.natAbs ≤ 45 → (x * y - z * w : Int).natAbs ≤ 4050 := fun x y z w a b c d => ab_sub (ab_mul a b) (ab_mul c d)
  unfold qm3
  exact ab_add (ab_sub (ab_mul (h _ _) (k2 _ _ _ _ (h _ _) (h _ _) (h _ _) (h _ _))) (ab_mul (h _ _) (k2 _ _ _ _ (h _ _) (h _ _) (h _ _) (h _ _)))) (ab_mul (h _ _) (k2 _ _ _ _ (h _ _) (h _ _) (h _ _) (h _ _)))
theorem qm4_ab {a : Nat → Nat → Int} (h : ∀ i j, (a i j).natAbs ≤ 45) : (qm4 a).natAbs ≤ 98415000 := by
  have k2 : ∀ x y z w, x.natAbs ≤ 45 → y.natAbs ≤ 45 → z.natAbs ≤ 45 → w.natAbs ≤ 45 → (x * y - z * w : Int).natAbs ≤ 4050 := fun x y z w a b c d => ab_sub (ab_mul a b) (ab_mul c d)
  have k3 : ∀ x y z u v w, x.natAbs ≤ 45 → y.natAbs ≤ 45 → z.natAbs ≤ 45 → u.natAbs ≤ 4050 → v.natAbs ≤ 4050 → w.natAbs ≤ 4050 → (x * u - y * v + z * w : Int).natAbs ≤ 546750 := fun x y z u v w a b c d e f => ab_add (ab_sub (ab_mul a d) (ab_mul b e)) (ab_mul c f)
  have k : ∀ x b1 b2 b3 c1 c2 c3 c4 c5 c6 c7 c8 c9 c10 c11 c12, x.natAbs ≤ 45 → b1.natAbs ≤ 45 → b2.natAbs ≤ 45 → b3.natAbs ≤ 45 → c1.natAbs ≤ 45 → c2.natAbs ≤ 45 → c3.natAbs ≤ 45 → c4.natAbs ≤ 45 → c5.natAbs ≤ 45 → c6.natAbs ≤ 45 → c7.natAbs ≤ 45 → c8.natAbs ≤ 45 → c9.natAbs ≤ 45 → c10.natAbs ≤ 45 → c11.natAbs ≤ 45 → c12.natAbs ≤ 45 → (x * (b1 * (c1 * c2 - c3 * c4) - b2 * (c5 * c6 - c7 * c8) + b3 * (c9 * c10 - c11 * c12)) : Int).natAbs ≤ 45 * 546750 := fun x b1 b2 b3 c1 c2 c3 c4 c5 c6 c7 c8 c9 c10 c11 c12 hx h1 h2 h3 g1 g2 g3 g4 g5 g6 g7 g8 g9 g10 g11 g12 => ab_mul hx (k3 _ _ _ _ _ _ h1 h2 h3 (k2 _ _ _ _ g1 g2 g3 g4) (k2 _ _ _ _ g5 g6 g7 g8) (k2 _ _ _ _ g9 g10 g11 g12))
  unfold qm4
  refine ab_sub (ab_add (ab_sub (k _ _ _ _ _ _ _ _ _ _ _ _ _ _ _ _ ?_ ?_ ?_ ?_ ?_ ?_ ?_ ?_ ?_ ?_ ?_ ?_ ?_ ?_ ?_ ?_) (k _ _ _ _ _ _ _ _ _ _ _ _ _ _ _ _ ?_ ?_ ?_ ?_ ?_ ?_ ?_ ?_ ?_ ?_ ?_ ?_ ?_ ?_ ?_ ?_)) (k _ _ _ _ _ _ _ _ _ _ _ _ _ _ _ _ ?_ ?_ ?_ ?_ ?_ ?_ ?_ ?_ ?_ ?_ ?_ ?_ ?_ ?_ ?_ ?_)) (k _ _ _ _ _ _ _ _ _ _ _ _ _ _ _ _ ?_ ?_ ?_ ?_ ?_ ?_ ?_ ?_ ?_ ?_ ?_ ?_ ?_ ?_ ?_ ?_) <;> exact h _ _
theorem iL_div {x y q : Int} (h : x = q * y) (hy : y ≠ 0) (hx1 : x.natAbs ≤ 2 ^ 62) (hy1 : y.natAbs ≤ 2 ^ 62) : iL x / iL y = iL q := by
  have hx := @iL_toInt x (by omega) (by omega)
  have hyy := @iL_toInt y (by omega) (by omega)
  apply Int64.toInt_inj.mp
  rw [Int64.toInt_div, hx, hyy, h, Int.mul_tdiv_cancel _ hy]
  unfold iL
  rw [Int64.toInt_ofInt]
/-- what the cells hold at each stage, and the pivot before it -/
def qbk (a : Nat → Nat → Int) : Nat → Nat → Nat → Int
  | 0, i, j => a i j
  | 1, i, j => qm2 a i j
  | 2, i, j => qm3 a i j
  | _, _, _ => qm4 a
theorem qdet_bk (a : Nat → Nat → Int) : ∀ n, n < 4 → qdet a (n + 1) = qbk a n n n
  | 0, _ => rfl
  | 1, _ => rfl
  | 2, _ => rfl
  | 3, _ => rfl
  | n + 4, h => by omega
def qpv (a : Nat → Nat → Int) (k : Nat) : Int := qdet a k
