/-! WEIGHTS, SETS AS BITS, COMMON DIVISORS -/
def qws (d : qD) (c s : Nat) : Nat → Nat
  | 0 => 0
  | t + 1 => qws d c s t + qw d c s t
def qwt (d : qD) (c s : Nat) : Nat := qws d c s (qS d)
theorem qw_le {d : qD} (hd : qOK d) (c s t : Nat) : qw d c s t ≤ 9 := hd.2.2.2.2.2.2.2.1 _
theorem qws_le {d : qD} (hd : qOK d) (c s : Nat) : ∀ t, qws d c s t ≤ 9 * t
  | 0 => Nat.le_refl _
  | t + 1 => by
    have := qws_le hd c s t
    have := qw_le hd c s t
    show qws d c s t + qw d c s t ≤ 9 * (t + 1)
    omega
theorem qwt_le {d : qD} (hd : qOK d) (c s : Nat) : qwt d c s ≤ 45 := by
  have := qws_le hd c s (qS d)
  have := hd.1
  unfold qwt
  omega
theorem Net_weightOf {d : qD} {M : pm_M} (h : qC M d) {c s t : Nat} (hc : c < 2) (hs : s < 5) (ht : t < 5) : sNet_weightOf_1 (nI c) (nI s) (nI t) M = some (nI (qw d c s t), M) := by
  unfold sNet_weightOf_1 qw
  have h1 : (c * 5 + s) * 5 + t = 25 * c + 5 * s + t := by omega
  have h2 : 25 * c + 5 * s + t < 50 := by omega
  simp (disch := omega) only [nI_clamp, nI_in_iff, h.2.2.2.2.2, q5, nI_mul, qI_add, h1, h2, if_true]
theorem Net_setWeight {M : pm_M} {c s t : Nat} (hc : c < 2) (hs : s < 5) (ht : t < 5) (v : Int32) : sNet_setWeight_1 (nI c) (nI s) (nI t) v M = some (pm_sI M 6 (25 * c + 5 * s + t) v) := by
  unfold sNet_setWeight_1
  have h1 : (c * 5 + s) * 5 + t = 25 * c + 5 * s + t := by omega
  have h2 : 25 * c + 5 * s + t < 50 := by omega
  simp (disch := omega) only [nI_clamp, nI_in_iff, q5, nI_mul, qI_add, h1, h2, if_true, q_lt]
theorem R_weights {d : qD} {M : pm_M} (hd : qOK d) (h : qR M d) {c s : Nat} (hc : c < 2) (hs : s < 5) : sR_weights (nI c) (nI s) M = some (nI (qwt d c s), M) := by
  unfold sR_weights
  have hS := hd.1
  refine q_for (fun i (g : Int32 → Int32 → pm_M → Option (Int32 × pm_M)) => g (nI (qws d c s i)) (nI i) M) (N := qS d) ?_ ?_ (by omega)
  · intro i hi g
    have h2 : 25 * c + 5 * s + i < 50 := by omega
    have h3 : ¬ qS d ≤ i := by omega
    simp (disch := omega) only [h.1, nI_le_iff, h3, if_false, R_routeAt, q_bd, q_lt, nI_in_iff, h2, if_true, nI_clamp, h.2.2.2.2.2, qI_add, q1]
    rfl
  · intro g
    simp (disch := omega) only [h.1, nI_le_iff, Nat.le_refl, if_true]
    rfl
theorem Net_weightsFrom {d : qD} {M : pm_M} (hd : qOK d) (h : qC M d) {c s : Nat} (hc : c < 2) (hs : s < 5) : sNet_weightsFrom_1 (nI c) (nI s) M = some (nI (qwt d c s), M) := by
  unfold sNet_weightsFrom_1
  have hS := hd.1
  rw [q_lt]
  refine q_for (fun i (g : Int32 → Int32 → pm_M → Option (Int32 × pm_M)) => g (nI (qws d c s i)) (nI i) M) (N := qS d) ?_ ?_ (by omega)
  · intro i hi g
    have h1 : (c * 5 + s) * 5 + i = 25 * c + 5 * s + i := by omega
    have h2 : 25 * c + 5 * s + i < 50 := by omega
    have h3 : ¬ qS d ≤ i := by omega
    simp (disch := omega) only [h.1, nI_le_iff, h3, if_false, q_lt, nI_in_iff, h2, if_true, nI_clamp, h.2.2.2.2.2, qI_add, nI_mul, q1, q5, h1]
    rfl
  · intro g
    simp (disch := omega) only [h.1, nI_le_iff, Nat.le_refl, if_true]
    rfl
/-- bits of sets within the five stations -/
theorem bi_or : ∀ a, a < 32 → ∀ b, b < 32 → nI a ||| nI b = nI (a ||| b) := by decide +kernel
theorem bi_and : ∀ a, a < 32 → ∀ b, b < 32 → nI a &&& nI b = nI (a &&& b) := by decide +kernel
theorem bi_not : ∀ a, a < 32 → ∀ b, b < 32 → nI a &&& (nI b ^^^ (-1 : Int32)) = nI (a &&& (31 - b)) := by decide +kernel
theorem bi_sh : ∀ k, k < 5 → (1 : Int32) <<< (nI k &&& 31) = nI (2 ^ k) := by decide +kernel
theorem bi_has : ∀ a, a < 32 → ∀ k, k < 5 → (nI a >>> (nI k &&& 31)) &&& (1 : Int32) = nI (a / 2 ^ k % 2) := by decide +kernel
theorem bi_lt_or : ∀ a, a < 32 → ∀ b, b < 32 → a ||| b < 32 := by decide +kernel
def qhas (a k : Nat) : Bool := a.testBit k
theorem bi_tb : ∀ a, a < 32 → ∀ k, k < 5 → a / 2 ^ k % 2 = if qhas a k = true then 1 else 0 := by decide +kernel
theorem bi_pow : ∀ k, k < 5 → 2 ^ k < 32 := by decide +kernel
/-- the stations that one leads to -/
def qlds (d : qD) (c s : Nat) : Nat → Nat
  | 0 => 0
  | t + 1 => if qw d c s t = 0 then qlds d c s t else qlds d c s t ||| 2 ^ t
def qld (d : qD) (c s : Nat) : Nat := qlds d c s (qS d)
theorem qlds_lt (d : qD) (c s : Nat) : ∀ t, t ≤ 5 → qlds d c s t < 32
  | 0, _ => by show 0 < 32; omega
  | t + 1, h => by
    have ih := qlds_lt d c s t (by omega)
    unfold qlds
    split
    · exact ih
    · exact bi_lt_or _ ih _ (bi_pow t (by omega))
theorem Net_ledTo {d : qD} {M : pm_M} (hd : qOK d) (h : qC M d) {c s : Nat} (hc : c < 2) (hs : s < 5) : sNet_ledTo_1 (nI c) (nI s) M = some (nI (qld d c s), M) := by
  unfold sNet_ledTo_1
  have hS := hd.1
  rw [q_lt]
  refine q_for (fun i (g : Int32 → Int32 → pm_M → Option (Int32 × pm_M)) => g (nI (qlds d c s i)) (nI i) M) (N := qS d) ?_ ?_ (by omega)
  · intro i hi g
    have h1 : (c * 5 + s) * 5 + i = 25 * c + 5 * s + i := by omega
    have h2 : 25 * c + 5 * s + i < 50 := by omega
    have h3 : ¬ qS d ≤ i := by omega
    have hw := qw_le hd c s i
    unfold qw at hw
    have hl := qlds_lt d c s i (by omega)
    have hp := bi_pow i (by omega)
    by_cases hz : qW d (25 * c + 5 * s + i) = 0
    · have hz2 : qW d (25 * c + 5 * s + i) ≤ 0 := by omega
      have hz3 : qlds d c s (i + 1) = qlds d c s i := by show (if qw d c s i = 0 then _ else _) = _; rw [if_pos (show qw d c s i = 0 from hz)]
      simp (disch := omega) only [h.1, nI_le_iff, h3, if_false, q_lt, nI_in_iff, h2, if_true, nI_clamp, h.2.2.2.2.2, qI_add, nI_mul, q0, q1, q5, h1, hz2, hz3]
    · have hz2 : ¬ qW d (25 * c + 5 * s + i) ≤ 0 := by omega
      have hz3 : qlds d c s (i + 1) = qlds d c s i ||| 2 ^ i := by show (if qw d c s i = 0 then _ else _) = _; rw [if_neg (show ¬ qw d c s i = 0 from hz)]
      have e1 := bi_sh i (by omega)
      have e2 := bi_or _ hl _ hp
      simp (disch := omega) only [h.1, nI_le_iff, h3, if_false, q_lt, nI_in_iff, h2, if_true, nI_clamp, h.2.2.2.2.2, qI_add, nI_mul, q0, q5, h1, hz2, hz3, e1, e2]
      rw [← nI_succ]
  · intro g
    simp (disch := omega) only [h.1, nI_le_iff, Nat.le_refl, if_true]
    rfl
/-- Euclid -/
theorem nL_div {a b : Nat} (ha : a < 2 ^ 63) (hb : b < 2 ^ 63) (h0 : 0 < b) : nL a / nL b = nL (a / b) := by
  apply Int64.toInt_inj.mp
  have hq : a / b < 2 ^ 63 := Nat.lt_of_le_of_lt (Nat.div_le_self _ _) ha
  have hne : nL b ≠ -1 := fun q => by
    have h1 := congrArg Int64.toInt q
    rw [nL_toInt hb, show (-1 : Int64).toInt = -1 from by decide] at h1
    omega
  rw [Int64.toInt_div_of_ne_right _ _ hne, nL_toInt ha, nL_toInt hb, nL_toInt hq]
  exact Int.ofNat_tdiv a b
theorem nL_rem {a b : Nat} (ha : a < 2 ^ 63) (hb : b < 2 ^ 63) (h0 : 0 < b) : nL a - nL a / nL b * nL b = nL (a % b) := by
  rw [nL_div ha hb h0, nL_mul]
  have h1 : nL a = nL (a % b) + nL (a / b * b) := by
    rw [nL_add]
    congr 1
    rw [Nat.mul_comm]
    exact (Nat.mod_add_div a b).symm
  rw [h1, Int64.add_sub_cancel]
theorem nL_0 {b : Nat} (hb : b < 2 ^ 63) : nL b = 0 ↔ b = 0 := by
  rw [show (0 : Int64) = nL 0 from rfl, nL_inj hb (by omega)]
/-- so many turns are enough for Euclid -/
def qge : Nat → Nat → Nat → Prop
  | 0, _, y => y = 0
  | n + 1, x, y => y = 0 ∨ qge n y (x % y)
theorem qge_up : ∀ (n : Nat) (x y : Nat), qge n x y → qge (n + 1) x y
  | 0, _, _, h => Or.inl h
  | n + 1, x, y, h => by
    rcases h with h | h
    · exact Or.inl h
    · exact Or.inr (qge_up n _ _ h)
theorem qge_le {n m x y : Nat} (hnm : n ≤ m) (h : qge n x y) : qge m x y := by
  induction hnm with
  | refl => exact h
  | step _ ih => exact qge_up _ _ _ ih
theorem qge_pow : ∀ (k x y : Nat), y < 2 ^ k → qge (2 * k) x y
  | 0, _, y, h => by show y = 0; omega
  | k + 1, x, y, h => by
    show qge (2 * k + 2) x y
    by_cases h0 : y = 0
    · exact Or.inl h0
    · refine Or.inr ?_
      by_cases h1 : x % y = 0
      · exact Or.inl h1
      · refine Or.inr (qge_pow k _ _ ?_)
        have e1 : x % y < y := Nat.mod_lt _ (by omega)
        have e2 : y % (x % y) < x % y := Nat.mod_lt _ (by omega)
        have e3 : 2 ^ (k + 1) = 2 * 2 ^ k := by rw [Nat.pow_succ, Nat.mul_comm]
        by_cases h2 : 2 * (x % y) ≤ y
        · omega
        · have e4 : y % (x % y) = y - x % y := by
            rw [Nat.mod_eq_sub_mod (by omega), Nat.mod_eq_of_lt (by omega)]
          omega
theorem R_common_loop : ∀ (n x y : Nat) (k : Nat) (M : pm_M), qge n x y → n < k → x < 2 ^ 62 → y < 2 ^ 62 → pm_loop (fun _ _ _ => none) (fun (g7 : Int64 → Int64 → pm_M → Option (Int64 × pm_M)) x9 x10 M8 => if (lg_cmp x10 (0 : Int64)) = 0 then (some (x9, M8)) else (if ¬ x10 = 0 then (pm_lt ((x9 - x9 / x10 * x10)) fun x11 => g7 x10 x11 M8) else none)) k (nL x) (nL y) M = some (nL (Nat.gcd x y), M)
  | n, x, y, 0, M, _, h, _, _ => by omega
  | n, x, y, k + 1, M, hq, hk, hx, hy => by
    rw [q_lp]
    show (if lg_cmp (nL y) (0 : Int64) = 0 then _ else _) = _
    by_cases h0 : y = 0
    · rw [if_pos ((cmp_eq _ _).mpr ((nL_0 (by omega)).mpr h0)), h0, Nat.gcd_zero_right]
    · have h1 : ¬ nL y = 0 := fun q => h0 ((nL_0 (by omega)).mp q)
      rw [if_neg (fun q => h1 ((cmp_eq _ _).mp q)), if_pos h1, q_lt, nL_rem (by omega) (by omega) (by omega)]
      cases n with
      | zero => exact absurd hq h0
      | succ n =>
        rcases hq with hq | hq
        · exact absurd hq h0
        · rw [Nat.gcd_comm x y, Nat.gcd_rec y x, Nat.gcd_comm]
          have := Nat.mod_lt x (show y > 0 by omega)
          exact R_common_loop n y (x % y) k M hq (by omega) hy (by omega)
theorem R_common {a b : Nat} (ha : a < 2 ^ 62) (hb : b < 2 ^ 62) (M : pm_M) : sR_common (nL a) (nL b) M = some (nL (Nat.gcd a b), M) := by
  unfold sR_common
  have h1 : (0 : Int64) ≤ nL a := (nL_le_iff (a := 0) (by omega) (by omega)).mpr (Nat.zero_le _)
  have h2 : (0 : Int64) ≤ nL b := (nL_le_iff (a := 0) (by omega) (by omega)).mpr (Nat.zero_le _)
  simp only [q_jn, cmp_ge, h1, h2, if_true]
  exact R_common_loop 124 a b 1000000 M (qge_pow 62 a b hb) (by omega) ha hb
theorem C_common_loop : ∀ (n x y i : Nat) (k : Nat) (M : pm_M), qge n x y → n < k → n + i < 200 → x < 2 ^ 62 → y < 2 ^ 62 → pm_loop (fun _ _ _ _ => none) (fun (g3 : Int64 → Int64 → Int32 → pm_M → Option (Int64 × pm_M)) x5 x6 x7 M4 => if (200 : Int32) ≤ x7 then (some (x5, M4)) else (if (lg_cmp x6 (0 : Int64)) = 0 then (some (x5, M4)) else (if ¬ x6 = 0 then (pm_lt ((x5 - x5 / x6 * x6)) fun x8 => pm_lt ((x7 + (1 : Int32))) fun x9 => g3 x6 x8 x9 M4) else none))) k (nL x) (nL y) (nI i) M = some (nL (Nat.gcd x y), M)
  | n, x, y, i, 0, M, _, h, _, _, _ => by omega
  | n, x, y, i, k + 1, M, hq, hk, hi, hx, hy => by
    rw [q_lp]
    have h200 : ¬ (200 : Int32) ≤ nI i := by
      rw [show (200 : Int32) = nI 200 from rfl, nI_le_iff (by omega) (by omega)]
      omega
    show (if (200 : Int32) ≤ nI i then _ else if lg_cmp (nL y) (0 : Int64) = 0 then _ else _) = _
    rw [if_neg h200]
    by_cases h0 : y = 0
    · rw [if_pos ((cmp_eq _ _).mpr ((nL_0 (by omega)).mpr h0)), h0, Nat.gcd_zero_right]
    · have h1 : ¬ nL y = 0 := fun q => h0 ((nL_0 (by omega)).mp q)
      rw [if_neg (fun q => h1 ((cmp_eq _ _).mp q)), if_pos h1, q_lt, q_lt, nL_rem (by omega) (by omega) (by omega), ← nI_succ]
      cases n with
      | zero => exact absurd hq h0
      | succ n =>
        rcases hq with hq | hq
        · exact absurd hq h0
        · rw [Nat.gcd_comm x y, Nat.gcd_rec y x, Nat.gcd_comm]
          have := Nat.mod_lt x (show y > 0 by omega)
          exact C_common_loop n y (x % y) (i + 1) k M hq (by omega) (by omega) hy (by omega)
theorem C_common {a b : Nat} (ha : a < 2 ^ 62) (hb : b < 2 ^ 62) (M : pm_M) : sC_commonDivisor (nL a) (nL b) M = some (nL (Nat.gcd a b), M) := by
  unfold sC_commonDivisor
  have hp : ∀ z : Nat, z < 2 ^ 62 → (if 0 < nL z then nL z else -nL z) = nL z := by
    intro z hz
    by_cases h : (0 : Int64) < nL z
    · rw [if_pos h]
    · rw [if_neg h]
      have h0 : z = 0 := by
        rw [show (0 : Int64) = nL 0 from rfl, nL_lt_iff (by omega) (by omega)] at h
        omega
      rw [h0]; rfl
  rw [q_lt, q_lt, hp a ha, hp b hb]
  exact C_common_loop 124 a b 0 1000000 M (qge_pow 62 a b hb) (by omega) (by omega) ha hb
