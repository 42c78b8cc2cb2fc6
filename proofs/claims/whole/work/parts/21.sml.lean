/-! THE SMALL METHODS -/
theorem b2i_congr {p q : Prop} [Decidable p] [Decidable q] (h : p ↔ q) : b2i p = b2i q := by
  unfold b2i
  by_cases hp : p
  · rw [if_pos hp, if_pos (h.mp hp)]
  · rw [if_neg hp, if_neg (fun z => hp (h.mpr z))]
theorem b2i_t {p : Prop} [Decidable p] (h : p) : b2i p = 1 := if_pos h
theorem b2i_f {p : Prop} [Decidable p] (h : ¬ p) : b2i p = 0 := if_neg h
theorem b2i_01 {p : Prop} [Decidable p] : b2i p = 0 ∨ b2i p = 1 := by
  by_cases h : p
  · exact Or.inr (b2i_t h)
  · exact Or.inl (b2i_f h)
theorem pm_in_toInt {x : Int32} {n : Nat} : pm_in x n ↔ 0 ≤ x.toInt ∧ x.toInt < n := by
  unfold pm_in
  rw [Int32.lt_iff_toInt_lt, Int32.toInt_zero]
  have : x.toNatClampNeg = x.toInt.toNat := rfl
  rw [this]
  omega
theorem R_in (a b c : Int64) (M : pm_M) : sR_in a b c M = some (b2i (b ≤ a ∧ a ≤ c), M) := by
  unfold sR_in
  simp only [cmp_lt, cmp_gt]
  by_cases h1 : a < b
  · rw [if_pos h1, b2i_f (fun q => absurd h1 (Int64.not_lt.mpr q.1))]
  · rw [if_neg h1]
    by_cases h2 : c < a
    · rw [if_pos h2, b2i_f (fun q => absurd h2 (Int64.not_lt.mpr q.2))]
    · rw [if_neg h2, b2i_t ⟨Int64.not_lt.mp h1, Int64.not_lt.mp h2⟩]
theorem R_in0 {x : Int32} {n : Nat} (hn : n < 2 ^ 31) (M : pm_M) : sR_in x.toInt64 0 (nL n) M = some (b2i (pm_in x (n + 1)), M) := by
  rw [R_in]
  congr 2
  apply b2i_congr
  rw [pm_in_toInt, Int64.le_iff_toInt_le, Int64.le_iff_toInt_le, Int32.toInt_toInt64, nL_toInt (by omega), Int64.toInt_zero]
  omega
abbrev pm_tm (x : Int32) : Prop := ¬ x < 1 ∧ ¬ 9 < x
theorem pm_tm_toInt {x : Int32} : pm_tm x ↔ 1 ≤ x.toInt ∧ x.toInt ≤ 9 := by
  unfold pm_tm
  rw [Int32.lt_iff_toInt_lt, Int32.lt_iff_toInt_lt, q1, q9, nI_toInt (by omega), nI_toInt (by omega)]
  omega
theorem R_in19 (x : Int32) (M : pm_M) : sR_in x.toInt64 1 9 M = some (b2i (pm_tm x), M) := by
  rw [R_in]
  congr 2
  apply b2i_congr
  rw [pm_tm_toInt, Int64.le_iff_toInt_le, Int64.le_iff_toInt_le, Int32.toInt_toInt64, show (9 : Int64) = nL 9 from rfl, show (1 : Int64) = nL 1 from rfl, nL_toInt (by omega), nL_toInt (by omega)]
  omega
theorem R_in03 (x : Int32) (M : pm_M) : sR_in x.toInt64 0 3 M = some (b2i (pm_in x 4), M) := R_in0 (n := 3) (by omega) M
theorem R_in01 (x : Int32) (M : pm_M) : sR_in x.toInt64 0 1 M = some (b2i (pm_in x 2), M) := R_in0 (n := 1) (by omega) M
theorem R_in02 (x : Int32) (M : pm_M) : sR_in x.toInt64 0 2 M = some (b2i (pm_in x 3), M) := R_in0 (n := 2) (by omega) M
theorem R_in04 (x : Int32) (M : pm_M) : sR_in x.toInt64 0 4 M = some (b2i (pm_in x 5), M) := R_in0 (n := 4) (by omega) M
theorem R_in06 (x : Int32) (M : pm_M) : sR_in x.toInt64 0 6 M = some (b2i (pm_in x 7), M) := R_in0 (n := 6) (by omega) M
theorem R_in09 (x : Int32) (M : pm_M) : sR_in x.toInt64 0 9 M = some (b2i (pm_in x 10), M) := R_in0 (n := 9) (by omega) M
theorem R_in0255 (x : Int32) (M : pm_M) : sR_in x.toInt64 0 255 M = some (b2i (pm_in x 256), M) := R_in0 (n := 255) (by omega) M
theorem R_isPart (x : Int32) (M : pm_M) : sR_isPart x M = some (b2i (pm_in x 2), M) := by
  unfold sR_isPart
  rw [R_in01, q_bd, if_pos b2i_01]
theorem R_isSheet (x : Int32) (M : pm_M) : sR_isSheet x M = some (b2i (pm_in x 4), M) := by
  unfold sR_isSheet
  rw [R_in03, q_bd, if_pos b2i_01]
/-- the net as numbers: stations, kinds, times, homes (0: none; else one more), parts, weights -/
abbrev qD : Type := Nat × (Nat → Nat) × (Nat → Nat) × (Nat → Nat) × (Nat → Nat) × (Nat → Nat)
def qS (d : qD) : Nat := d.1
def qK (d : qD) : Nat → Nat := d.2.1
def qT (d : qD) : Nat → Nat := d.2.2.1
def qH (d : qD) : Nat → Nat := d.2.2.2.1
def qP (d : qD) : Nat → Nat := d.2.2.2.2.1
def qW (d : qD) : Nat → Nat := d.2.2.2.2.2
def hI (h : Nat) : Int32 := match h with
  | 0 => -1
  | k + 1 => nI k
def qOK (d : qD) : Prop := qS d ≤ 5 ∧ (∀ k, qK d k ≤ 3) ∧ (∀ k, qT d k ≤ 9) ∧ (∀ c s, c < 2 → s < qS d → 1 ≤ qT d (5 * c + s)) ∧ (∀ c, c < 2 → qH d c ≤ qS d) ∧ (∀ c, qP d c ≤ 6) ∧ qP d 0 + qP d 1 ≤ 8 ∧ (∀ k, qW d k ≤ 9) ∧ ∀ c s t, c < 2 → s < 5 → t < 5 → qW d (25 * c + 5 * s + t) ≠ 0 → s < qS d ∧ t < qS d
/-- the reference's net -/
def qR (M : pm_M) (d : qD) : Prop := M.1 49 1 = nI (qS d) ∧ (∀ k, M.1 50 k = nI (qK d k)) ∧ (∀ k, M.1 51 k = nI (qT d k)) ∧ (∀ c, M.1 52 c = hI (qH d c)) ∧ (∀ c, M.1 53 c = nI (qP d c)) ∧ ∀ k, M.1 54 k = nI (qW d k)
/-- the class's net -/
def qC (M : pm_M) (d : qD) : Prop := M.1 1 0 = nI (qS d) ∧ (∀ k, M.1 2 k = nI (qK d k)) ∧ (∀ k, M.1 3 k = nI (qT d k)) ∧ (∀ c, M.1 4 c = hI (qH d c)) ∧ (∀ c, M.1 5 c = nI (qP d c)) ∧ ∀ k, M.1 6 k = nI (qW d k)
def qtm (d : qD) (c s : Nat) : Nat := if qK d s = 0 then qT d s else qT d (5 * c + s)
def qw (d : qD) (c s t : Nat) : Nat := qW d (25 * c + 5 * s + t)
theorem R_isStation {d : qD} {M : pm_M} (hd : qOK d) (h : qR M d) (x : Int32) : sR_isStation x M = some (b2i (pm_in x (qS d)), M) := by
  unfold sR_isStation
  have hS := hd.1
  rw [R_in, q_bd, if_pos b2i_01]
  congr 2
  apply b2i_congr
  rw [h.1, pm_in_toInt, Int64.le_iff_toInt_le, Int64.le_iff_toInt_le, Int32.toInt_toInt64, Int32.toInt_toInt64, Int64.toInt_zero]
  have : (nI (qS d) - 1).toInt = (qS d : Int) - 1 := by
    generalize qS d = n at hS
    match n, hS with
    | 0, _ => rfl
    | 1, _ => rfl
    | 2, _ => rfl
    | 3, _ => rfl
    | 4, _ => rfl
    | 5, _ => rfl
    | k + 6, h => omega
  rw [this]
  omega
theorem C_isClass (x : Int32) (M : pm_M) : sC_isClass x M = some (b2i (pm_in x 2), M) := by
  unfold sC_isClass
  by_cases h1 : x < 0
  · rw [if_pos h1, b2i_f (fun q => q.1 h1)]
  · rw [if_neg h1]
    obtain ⟨k, hk, rfl⟩ := nI_ex h1
    rw [q2]
    by_cases h2 : nI 2 ≤ nI k
    · rw [if_pos h2, b2i_f (by rw [nI_in_iff hk]; rw [nI_le_iff (by omega) hk] at h2; omega)]
    · rw [if_neg h2, b2i_t (by rw [nI_in_iff hk]; rw [nI_le_iff (by omega) hk] at h2; omega)]
theorem C_isKind (x : Int32) (M : pm_M) : sC_isKind x M = some (b2i (pm_in x 4), M) := by
  unfold sC_isKind
  by_cases h1 : x < 0
  · rw [if_pos h1, b2i_f (fun q => q.1 h1)]
  · rw [if_neg h1]
    obtain ⟨k, hk, rfl⟩ := nI_ex h1
    rw [q3]
    by_cases h2 : nI 3 < nI k
    · rw [if_pos h2, b2i_f (by rw [nI_in_iff hk]; rw [nI_lt_iff (by omega) hk] at h2; omega)]
    · rw [if_neg h2, b2i_t (by rw [nI_in_iff hk]; rw [nI_lt_iff (by omega) hk] at h2; omega)]
theorem C_isTime (x : Int32) (M : pm_M) : sC_isTime x M = some (b2i (pm_tm x), M) := by
  unfold sC_isTime
  by_cases h1 : x < 1
  · rw [if_pos h1, b2i_f (fun q => q.1 h1)]
  · rw [if_neg h1]
    by_cases h2 : 9 < x
    · rw [if_pos h2, b2i_f (fun q => q.2 h2)]
    · rw [if_neg h2, b2i_t ⟨h1, h2⟩]
theorem Net_hasStation {d : qD} {M : pm_M} (hd : qOK d) (h : qC M d) (x : Int32) : sNet_hasStation_1 x M = some (b2i (pm_in x (qS d)), M) := by
  unfold sNet_hasStation_1
  have hS := hd.1
  rw [h.1]
  by_cases h1 : x < 0
  · rw [if_pos h1, b2i_f (fun q => q.1 h1)]
  · rw [if_neg h1]
    obtain ⟨k, hk, rfl⟩ := nI_ex h1
    by_cases h2 : nI (qS d) ≤ nI k
    · rw [if_pos h2, b2i_f (by rw [nI_in_iff hk]; rw [nI_le_iff (by omega) hk] at h2; omega)]
    · rw [if_neg h2, b2i_t (by rw [nI_in_iff hk]; rw [nI_le_iff (by omega) hk] at h2; omega)]
theorem R_routeAt (c s t : Nat) (M : pm_M) : sR_routeAt (nI c) (nI s) (nI t) M = some (nI (25 * c + 5 * s + t), M) := by
  unfold sR_routeAt
  rw [q25, q5, nI_mul, nI_mul, qI_add, qI_add]
theorem R_timeOf {d : qD} {M : pm_M} (h : qR M d) (hd : qOK d) {c s : Nat} (hc : c < 2) (hs : s < 5) : sR_timeOf (nI c) (nI s) M = some (nI (qtm d c s), M) := by
  unfold sR_timeOf qtm
  have hK := hd.2.1 s
  have h1 : 5 * c + s < 10 := by omega
  have h2 : s < 10 := by omega
  by_cases h0 : qK d s = 0 <;> simp (disch := omega) only [nI_clamp, nI_in_iff, h.2.1, h.2.2.1, q0, q5, nI_mul, qI_add, nI_inj, hs, h0, h1, h2, if_true, if_false, not_true, not_false_iff]
theorem Net_timeOf {d : qD} {M : pm_M} (h : qC M d) (hd : qOK d) {c s : Nat} (hc : c < 2) (hs : s < 5) : sNet_timeOf_1 (nI c) (nI s) M = some (nI (qtm d c s), M) := by
  unfold sNet_timeOf_1 qtm
  have hK := hd.2.1 s
  have h1 : 5 * c + s < 10 := by omega
  have h2 : s < 10 := by omega
  by_cases h0 : qK d s = 0 <;> simp (disch := omega) only [nI_clamp, nI_in_iff, h.2.1, h.2.2.1, q0, q5, nI_mul, qI_add, nI_inj, hs, h0, h1, h2, if_true, if_false, not_true, not_false_iff, Nat.mul_comm c 5]
