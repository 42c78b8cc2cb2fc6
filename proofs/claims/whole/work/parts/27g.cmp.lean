/-! SWIFT: which fraction is more -/
/-- is a by b more than c by d (turned: less) -/
def qmr (t a b c d : Nat) : Prop := if t = 0 then c * b < a * d else a * d < c * b
theorem qmr_q {a b c d : Nat} (hb : 0 < b) (hd : 0 < d) : (c / d < a / b → c * b < a * d) ∧ (a / b < c / d → a * d < c * b) := by
  have key : ∀ {a b c d : Nat}, 0 < b → 0 < d → c / d < a / b → c * b < a * d := by
    intro a b c d hb hd h
    have h1 : c < (c / d + 1) * d := by
      rw [Nat.add_mul, Nat.one_mul, Nat.mul_comm]
      have := Nat.div_add_mod c d
      have := Nat.mod_lt c hd
      omega
    have h2 : (c / d + 1) * b ≤ a := by
      have h3 : (c / d + 1) * b ≤ a / b * b := Nat.mul_le_mul_right _ h
      have h4 := Nat.div_mul_le_self a b
      omega
    calc c * b < (c / d + 1) * d * b := Nat.mul_lt_mul_of_pos_right h1 hb
      _ = (c / d + 1) * b * d := by ac_rfl
      _ ≤ a * d := Nat.mul_le_mul_right _ h2
  exact ⟨key hb hd, key hd hb⟩
theorem qmr_e {a b c d : Nat} (h : a / b = c / d) : (c * b < a * d ↔ c % d * b < a % b * d) ∧ (a * d < c * b ↔ a % b * d < c % d * b) := by
  have h1 : a = a / b * b + a % b := by rw [Nat.mul_comm]; exact (Nat.div_add_mod a b).symm
  have h2 : c = a / b * d + c % d := by rw [h, Nat.mul_comm]; exact (Nat.div_add_mod c d).symm
  have e1 : a * d = a / b * b * d + a % b * d := by
    conv => lhs; rw [h1]
    rw [Nat.add_mul]
  have e2 : c * b = a / b * b * d + c % d * b := by
    conv => lhs; rw [h2]
    rw [Nat.add_mul]
    congr 1
    ac_rfl
  rw [e1, e2]
  omega
theorem qmr_n {t a b c d : Nat} (ht : t < 2) (hb : 0 < b) (hd : 0 < d) (h : ¬ a / b = c / d) : qmr t a b c d ↔ (t = 0 ↔ c / d < a / b) := by
  obtain ⟨h1, h2⟩ := qmr_q (a := a) (c := c) hb hd
  unfold qmr
  rcases (show t = 0 ∨ t = 1 by omega) with rfl | rfl
  · rw [if_pos rfl]
    by_cases q : c / d < a / b
    · exact ⟨fun _ => ⟨fun _ => q, fun _ => rfl⟩, fun _ => h1 q⟩
    · have := h2 (by omega)
      exact ⟨fun z => by omega, fun z => absurd (z.mp rfl) q⟩
  · rw [if_neg (by decide)]
    by_cases q : c / d < a / b
    · have := h1 q
      exact ⟨fun z => by omega, fun z => absurd (z.mpr q) (by decide)⟩
    · exact ⟨fun _ => ⟨fun z => absurd z (by decide), fun z => absurd z q⟩, fun _ => h2 (by omega)⟩
/-- one of the rests is 0 -/
theorem qmr_0 {t a b c d : Nat} (ht : t < 2) (hb : 0 < b) (hd : 0 < d) (h : a / b = c / d) (h0 : a % b = 0 ∨ c % d = 0) : qmr t a b c d ↔ if t = 0 then a % b ≠ 0 else c % d ≠ 0 := by
  obtain ⟨h1, h2⟩ := qmr_e h
  unfold qmr
  have key : ∀ {x y u v : Nat}, 0 < u → 0 < v → (x = 0 ∨ y = 0) → (y * u < x * v ↔ x ≠ 0) := by
    intro x y u v hu hv hxy
    rcases hxy with rfl | rfl
    · rw [Nat.zero_mul]
      exact ⟨fun z => by omega, fun z => absurd rfl z⟩
    · rw [Nat.zero_mul]
      constructor
      · intro z q
        rw [q, Nat.zero_mul] at z
        omega
      · intro z
        exact Nat.mul_pos (by omega) hv
  rcases (show t = 0 ∨ t = 1 by omega) with rfl | rfl
  · rw [if_pos rfl, if_pos rfl, h1]
    exact key hb hd h0
  · rw [if_neg (by decide), if_neg (by decide), h2]
    exact key hd hb h0.symm
theorem qmr_s {t a b c d : Nat} (ht : t < 2) (h : a / b = c / d) : qmr t a b c d ↔ qmr (1 - t) b (a % b) d (c % d) := by
  obtain ⟨h1, h2⟩ := qmr_e h
  unfold qmr
  rcases (show t = 0 ∨ t = 1 by omega) with rfl | rfl
  · rw [if_pos rfl, if_neg (by decide), h1, Nat.mul_comm (c % d), Nat.mul_comm (a % b)]
  · rw [if_neg (by decide), if_pos rfl, h2, Nat.mul_comm (a % b), Nat.mul_comm (c % d)]
theorem nL_q {a b c d : Nat} (ha : a < 2 ^ 62) (hc : c < 2 ^ 62) : (nL (a / b) = nL (c / d) ↔ a / b = c / d) ∧ (nL (a / b) ≤ nL (c / d) ↔ a / b ≤ c / d) := by
  have h1 := Nat.div_le_self a b
  have h2 := Nat.div_le_self c d
  exact ⟨nL_inj (by omega) (by omega), nL_le_iff (by omega) (by omega)⟩
theorem R_isMore_loop : ∀ (n a b c d t : Nat) (k : Nat) (M : pm_M), qge n a b → n < k → a < 2 ^ 62 → b < 2 ^ 62 → c < 2 ^ 62 → d < 2 ^ 62 → 0 < b → 0 < d → t < 2 → pm_loop (fun _ _ _ _ _ _ => none) (fun (g1 : Int64 → Int64 → Int64 → Int64 → Int32 → pm_M → Option (Int32 × pm_M)) x3 x4 x5 x6 x7 M2 => if ¬ x4 = 0 then (if ¬ x6 = 0 then (if (lg_cmp (x3 / x4) (x5 / x6)) = 0 then (if ¬ x4 = 0 then (pm_lt ((x3 - x3 / x4 * x4)) fun x8 => if ¬ x6 = 0 then (pm_lt ((x5 - x5 / x6 * x6)) fun x9 => pm_jn (fun (M11 : pm_M) => pm_jn (fun (q14 : Int32) (M13 : pm_M) => if q14 = x7 then (some ((0 : Int32), M13)) else (if ¬ (lg_cmp x8 (0 : Int64)) = 0 then (some ((1 : Int32), M13)) else (if (lg_cmp x9 (0 : Int64)) = 0 then (some ((0 : Int32), M13)) else (some ((1 : Int32), M13))))) fun (j12 : Int32 → pm_M → Option (Int32 × pm_M)) => if (lg_cmp x8 (0 : Int64)) = 0 then (j12 (0 : Int32) M11) else (j12 (1 : Int32) M11)) fun (j10 : pm_M → Option (Int32 × pm_M)) => if (lg_cmp x8 (0 : Int64)) = 0 then (j10 M2) else (if ¬ (lg_cmp x9 (0 : Int64)) = 0 then (if ¬ x7 = 0 then (g1 x4 x8 x6 x9 (0 : Int32) M2) else (g1 x4 x8 x6 x9 (1 : Int32) M2)) else (j10 M2))) else none) else none) else (if ¬ x4 = 0 then (if ¬ x6 = 0 then (pm_jn (fun (q17 : Int32) (M16 : pm_M) => if q17 = x7 then (some ((0 : Int32), M16)) else (some ((1 : Int32), M16))) fun (j15 : Int32 → pm_M → Option (Int32 × pm_M)) => if (lg_cmp (x3 / x4) (x5 / x6)) ≤ 0 then (j15 (0 : Int32) M2) else (j15 (1 : Int32) M2)) else none) else none)) else none) else none) k (nL a) (nL b) (nL c) (nL d) (nI t) M = some (q2i (qmr t a b c d), M)
  | n, a, b, c, d, t, 0, M, _, h, _, _, _, _, _, _, _ => by omega
  | n, a, b, c, d, t, k + 1, M, hq, hk, ha, hb, hc, hd, hb0, hd0, ht => by
    rw [q_lp]
    have zb : ¬ nL b = 0 := by rw [nL_0 (by omega)]; omega
    have zd : ¬ nL d = 0 := by rw [nL_0 (by omega)]; omega
    have ra : a % b < b := Nat.mod_lt _ hb0
    have rc : c % d < d := Nat.mod_lt _ hd0
    obtain ⟨qe, ql⟩ := nL_q (b := b) (d := d) ha hc
    have ce : lg_cmp (nL (a / b)) (nL (c / d)) = 0 ↔ a / b = c / d := by rw [cmp_eq]; exact qe
    have cl : lg_cmp (nL (a / b)) (nL (c / d)) ≤ 0 ↔ a / b ≤ c / d := by rw [cmp_le]; exact ql
    have ca : lg_cmp (nL (a % b)) 0 = 0 ↔ a % b = 0 := by rw [cmp_eq]; exact nL_0 (by omega)
    have cc : lg_cmp (nL (c % d)) 0 = 0 ↔ c % d = 0 := by rw [cmp_eq]; exact nL_0 (by omega)
    rw [if_pos zb, if_pos zd, nL_div (by omega) (by omega) hb0, nL_div (by omega) (by omega) hd0]
    by_cases q : a / b = c / d
    · rw [if_pos (ce.mpr q), if_pos zb, q_lt, if_pos zd, q_lt, ← nL_div (by omega) (by omega) hb0, ← nL_div (by omega) (by omega) hd0, nL_rem (by omega) (by omega) hb0, nL_rem (by omega) (by omega) hd0, q_jn]
      by_cases r0 : a % b = 0 ∨ c % d = 0
      · have fin : (pm_jn (fun (q14 : Int32) (M13 : pm_M) => if q14 = nI t then (some ((0 : Int32), M13)) else (if ¬ (lg_cmp (nL (a % b)) (0 : Int64)) = 0 then (some ((1 : Int32), M13)) else (if (lg_cmp (nL (c % d)) (0 : Int64)) = 0 then (some ((0 : Int32), M13)) else (some ((1 : Int32), M13))))) fun (j12 : Int32 → pm_M → Option (Int32 × pm_M)) => if (lg_cmp (nL (a % b)) (0 : Int64)) = 0 then (j12 (0 : Int32) M) else (j12 (1 : Int32) M)) = some (q2i (qmr t a b c d), M) := by
          rw [q_jn]
          have hm := qmr_0 ht hb0 hd0 q r0
          rcases (show t = 0 ∨ t = 1 by omega) with rfl | rfl
          · rw [if_pos rfl] at hm
            by_cases y : a % b = 0
            · rw [if_pos (ca.mpr y)]
              dsimp only
              rw [if_pos (by decide), q2i_f (fun z => hm.mp z y)]
            · rw [if_neg (fun z => y (ca.mp z))]
              dsimp only
              rw [if_neg (by decide), if_pos (fun z => y (ca.mp z)), q2i_t (hm.mpr y)]
          · rw [if_neg (by decide)] at hm
            by_cases y : a % b = 0
            · rw [if_pos (ca.mpr y)]
              dsimp only
              rw [if_neg (by decide), if_neg (fun z => z (ca.mpr y))]
              by_cases w : c % d = 0
              · rw [if_pos (cc.mpr w), q2i_f (fun z => hm.mp z w)]
              · rw [if_neg (fun z => w (cc.mp z)), q2i_t (hm.mpr w)]
            · rw [if_neg (fun z => y (ca.mp z))]
              dsimp only
              rw [if_pos (by decide), q2i_f (fun z => hm.mp z (r0.resolve_left y))]
        rcases r0 with y | y
        · rw [if_pos (ca.mpr y)]
          exact fin
        · by_cases w : a % b = 0
          · rw [if_pos (ca.mpr w)]
            exact fin
          · rw [if_neg (fun z => w (ca.mp z)), if_neg (fun z => z (cc.mpr y))]
            exact fin
      · have ya : ¬ a % b = 0 := fun z => r0 (Or.inl z)
        have yc : ¬ c % d = 0 := fun z => r0 (Or.inr z)
        rw [if_neg (fun z => ya (ca.mp z)), if_pos (fun z => yc (cc.mp z))]
        cases n with
        | zero => exact absurd hq (by show ¬ b = 0; omega)
        | succ n =>
          have hq' : qge n b (a % b) := hq.resolve_left (by omega)
          have hm : q2i (qmr t a b c d) = q2i (qmr (1 - t) b (a % b) d (c % d)) := by rw [show qmr t a b c d = qmr (1 - t) b (a % b) d (c % d) from propext (qmr_s ht q)]
          rw [hm]
          rcases (show t = 0 ∨ t = 1 by omega) with rfl | rfl
          · rw [if_neg (fun z => z rfl)]
            exact R_isMore_loop n b (a % b) d (c % d) 1 k M hq' (by omega) hb (by omega) hd (by omega) (by omega) (by omega) (by omega)
          · rw [if_pos (by decide)]
            exact R_isMore_loop n b (a % b) d (c % d) 0 k M hq' (by omega) hb (by omega) hd (by omega) (by omega) (by omega) (by omega)
    · have hm := qmr_n ht hb0 hd0 q
      rw [if_neg (fun z => q (ce.mp z)), if_pos zb, if_pos zd, q_jn]
      by_cases y : a / b ≤ c / d
      · rw [if_pos (cl.mpr y)]
        dsimp only
        rcases (show t = 0 ∨ t = 1 by omega) with rfl | rfl
        · rw [if_pos (by decide), q2i_f (fun z => by have := (hm.mp z).mp rfl; omega)]
        · rw [if_neg (by decide), q2i_t (hm.mpr ⟨fun z => absurd z (by decide), fun z => by omega⟩)]
      · rw [if_neg (fun z => y (cl.mp z))]
        dsimp only
        rcases (show t = 0 ∨ t = 1 by omega) with rfl | rfl
        · rw [if_neg (by decide), q2i_t (hm.mpr ⟨fun _ => by omega, fun _ => rfl⟩)]
        · rw [if_pos (by decide), q2i_f (fun z => absurd ((hm.mp z).mpr (by omega)) (by decide))]
theorem R_isMore {a b c d : Nat} (ha : a < 2 ^ 62) (hb : b < 2 ^ 62) (hc : c < 2 ^ 62) (hd : d < 2 ^ 62) (hb0 : 0 < b) (hd0 : 0 < d) (M : pm_M) : sR_isMore (nL a) (nL b) (nL c) (nL d) M = some (q2i (qmr 0 a b c d), M) := by
  unfold sR_isMore
  exact R_isMore_loop 124 a b c d 0 1000000 M (qge_pow 62 a b hb) (by omega) ha hb hc hd hb0 hd0 (by omega)
theorem JLong_compare {a b : Nat} (ha : a < 2 ^ 63) (hb : b < 2 ^ 63) (M : pm_M) : ∃ x : Int32, sJLong_compare (nL a) (nL b) M = some (x, M) ∧ (x ≤ 0 ↔ a ≤ b) ∧ (-x ≤ 0 ↔ b ≤ a) := by
  unfold sJLong_compare
  have cg : 0 ≤ lg_cmp (nL a) (nL b) ↔ b ≤ a := by rw [cmp_ge, nL_le_iff hb ha]
  have ce : lg_cmp (nL a) (nL b) = 0 ↔ a = b := by rw [cmp_eq, nL_inj ha hb]
  by_cases h : b ≤ a
  · rw [if_pos (cg.mpr h)]
    by_cases e : a = b
    · rw [if_neg (fun z => z (ce.mpr e))]
      exact ⟨0, rfl, ⟨fun _ => by omega, fun _ => by decide⟩, ⟨fun _ => by omega, fun _ => by decide⟩⟩
    · rw [if_pos (fun z => e (ce.mp z))]
      exact ⟨1, rfl, ⟨fun z => absurd z (by decide), fun z => by omega⟩, ⟨fun _ => h, fun _ => by decide⟩⟩
  · rw [if_neg (fun z => h (cg.mp z))]
    exact ⟨-1, rfl, ⟨fun _ => by omega, fun _ => by decide⟩, ⟨fun z => absurd z (by decide), fun z => absurd z h⟩⟩
def qsg (t : Nat) : Int32 := if t = 0 then 1 else -1
theorem C_compare_loop : ∀ (n a b c d t i : Nat) (k : Nat) (M : pm_M), qge n a b → n < k → n + i < 200 → a < 2 ^ 62 → b < 2 ^ 62 → c < 2 ^ 62 → d < 2 ^ 62 → 0 < b → 0 < d → t < 2 → ∃ x : Int32, pm_loop (fun _ _ _ _ _ _ _ => none) (fun (g1 : Int64 → Int64 → Int64 → Int64 → Int32 → Int32 → pm_M → Option (Int32 × pm_M)) x3 x4 x5 x6 x7 x8 M2 => if (200 : Int32) ≤ x8 then (some ((0 : Int32), M2)) else (if (lg_cmp x4 (0 : Int64)) ≤ 0 then (some ((0 : Int32), M2)) else (if (lg_cmp x6 (0 : Int64)) ≤ 0 then (some ((0 : Int32), M2)) else (if ¬ x4 = 0 then (if ¬ x6 = 0 then (if (lg_cmp (x3 / x4) (x5 / x6)) = 0 then (if ¬ x4 = 0 then (pm_lt ((x3 - x3 / x4 * x4)) fun x9 => if ¬ x6 = 0 then (pm_lt ((x5 - x5 / x6 * x6)) fun x10 => pm_jn (fun (M12 : pm_M) => pm_bd (sJLong_compare x9 x10 M12) fun v14 M13 => some ((x7 * v14), M13)) fun (j11 : pm_M → Option (Int32 × pm_M)) => if (lg_cmp x9 (0 : Int64)) = 0 then (j11 M2) else (if ¬ (lg_cmp x10 (0 : Int64)) = 0 then (pm_lt ((-x7)) fun x15 => pm_lt ((x8 + (1 : Int32))) fun x16 => g1 x4 x9 x6 x10 x15 x16 M2) else (j11 M2))) else none) else none) else (if ¬ x4 = 0 then (if ¬ x6 = 0 then (if (lg_cmp (x3 / x4) (x5 / x6)) ≤ 0 then (some ((-x7), M2)) else (some (x7, M2))) else none) else none)) else none) else none)))) k (nL a) (nL b) (nL c) (nL d) (qsg t) (nI i) M = some (x, M) ∧ (x ≤ 0 ↔ ¬ qmr t a b c d)
  | n, a, b, c, d, t, i, 0, M, _, h, _, _, _, _, _, _, _, _ => by omega
  | n, a, b, c, d, t, i, k + 1, M, hq, hk, hi, ha, hb, hc, hd, hb0, hd0, ht => by
    rw [q_lp]
    have zb : ¬ nL b = 0 := by rw [nL_0 (by omega)]; omega
    have zd : ¬ nL d = 0 := by rw [nL_0 (by omega)]; omega
    have ra : a % b < b := Nat.mod_lt _ hb0
    have rc : c % d < d := Nat.mod_lt _ hd0
    have h200 : ¬ (200 : Int32) ≤ nI i := by
      rw [show (200 : Int32) = nI 200 from rfl, nI_le_iff (by omega) (by omega)]
      omega
    have lb : ¬ lg_cmp (nL b) 0 ≤ 0 := by rw [cmp_le, show (0 : Int64) = nL 0 from rfl, nL_le_iff (by omega) (by omega)]; omega
    have ld : ¬ lg_cmp (nL d) 0 ≤ 0 := by rw [cmp_le, show (0 : Int64) = nL 0 from rfl, nL_le_iff (by omega) (by omega)]; omega
    obtain ⟨qe, ql⟩ := nL_q (b := b) (d := d) ha hc
    have ce : lg_cmp (nL (a / b)) (nL (c / d)) = 0 ↔ a / b = c / d := by rw [cmp_eq]; exact qe
    have cl : lg_cmp (nL (a / b)) (nL (c / d)) ≤ 0 ↔ a / b ≤ c / d := by rw [cmp_le]; exact ql
    have ca : lg_cmp (nL (a % b)) 0 = 0 ↔ a % b = 0 := by rw [cmp_eq]; exact nL_0 (by omega)
    have cc : lg_cmp (nL (c % d)) 0 = 0 ↔ c % d = 0 := by rw [cmp_eq]; exact nL_0 (by omega)
    rw [if_neg h200, if_neg lb, if_neg ld, if_pos zb, if_pos zd, nL_div (by omega) (by omega) hb0, nL_div (by omega) (by omega) hd0]
    by_cases q : a / b = c / d
    · rw [if_pos (ce.mpr q), if_pos zb, q_lt, if_pos zd, q_lt, ← nL_div (by omega) (by omega) hb0, ← nL_div (by omega) (by omega) hd0, nL_rem (by omega) (by omega) hb0, nL_rem (by omega) (by omega) hd0, q_jn]
      by_cases r0 : a % b = 0 ∨ c % d = 0
      · have fin : ∃ x : Int32, (pm_bd (sJLong_compare (nL (a % b)) (nL (c % d)) M) fun v14 M13 => some ((qsg t * v14), M13)) = some (x, M) ∧ (x ≤ 0 ↔ ¬ qmr t a b c d) := by
          obtain ⟨x, e, x1, x2⟩ := JLong_compare (a := a % b) (b := c % d) (by omega) (by omega) M
          have hm := qmr_0 ht hb0 hd0 q r0
          rw [e, q_bd]
          rcases (show t = 0 ∨ t = 1 by omega) with rfl | rfl
          · rw [if_pos rfl] at hm
            refine ⟨_, rfl, ?_⟩
            rw [show qsg 0 * x = x from Int32.one_mul x, x1, hm]
            omega
          · rw [if_neg (by decide)] at hm
            refine ⟨_, rfl, ?_⟩
            rw [show qsg 1 * x = -x from (Int32.neg_mul 1 x).trans (congrArg (fun z => -z) (Int32.one_mul x)), x2, hm]
            omega
        rcases r0 with y | y
        · rw [if_pos (ca.mpr y)]
          exact fin
        · by_cases w : a % b = 0
          · rw [if_pos (ca.mpr w)]
            exact fin
          · rw [if_neg (fun z => w (ca.mp z)), if_neg (fun z => z (cc.mpr y))]
            exact fin
      · have ya : ¬ a % b = 0 := fun z => r0 (Or.inl z)
        have yc : ¬ c % d = 0 := fun z => r0 (Or.inr z)
        rw [if_neg (fun z => ya (ca.mp z)), if_pos (fun z => yc (cc.mp z)), q_lt, q_lt, ← nI_succ]
        cases n with
        | zero => exact absurd hq (by show ¬ b = 0; omega)
        | succ n =>
          have hq' : qge n b (a % b) := hq.resolve_left (by omega)
          have hs : -(qsg t) = qsg (1 - t) := by rcases (show t = 0 ∨ t = 1 by omega) with rfl | rfl <;> rfl
          rw [hs, show qmr t a b c d = qmr (1 - t) b (a % b) d (c % d) from propext (qmr_s ht q)]
          exact C_compare_loop n b (a % b) d (c % d) (1 - t) (i + 1) k M hq' (by omega) (by omega) hb (by omega) hd (by omega) (by omega) (by omega) (by omega)
    · have hm := qmr_n ht hb0 hd0 q
      rw [if_neg (fun z => q (ce.mp z)), if_pos zb, if_pos zd]
      by_cases y : a / b ≤ c / d
      · rw [if_pos (cl.mpr y)]
        refine ⟨_, rfl, ?_⟩
        rcases (show t = 0 ∨ t = 1 by omega) with rfl | rfl
        · exact ⟨fun _ z => by have := (hm.mp z).mp rfl; omega, fun _ => by decide⟩
        · exact ⟨fun z => absurd z (by decide), fun z => absurd (hm.mpr ⟨fun z => absurd z (by decide), fun z => by omega⟩) z⟩
      · rw [if_neg (fun z => y (cl.mp z))]
        refine ⟨_, rfl, ?_⟩
        rcases (show t = 0 ∨ t = 1 by omega) with rfl | rfl
        · exact ⟨fun z => absurd z (by decide), fun z => absurd (hm.mpr ⟨fun _ => by omega, fun _ => rfl⟩) z⟩
        · exact ⟨fun _ z => absurd ((hm.mp z).mpr (by omega)) (by decide), fun _ => by decide⟩
theorem C_compare {a b c d : Nat} (ha : a < 2 ^ 62) (hb : b < 2 ^ 62) (hc : c < 2 ^ 62) (hd : d < 2 ^ 62) (hb0 : 0 < b) (hd0 : 0 < d) (M : pm_M) : ∃ x : Int32, sC_compareFractions (nL a) (nL b) (nL c) (nL d) M = some (x, M) ∧ (x ≤ 0 ↔ ¬ qmr 0 a b c d) := by
  unfold sC_compareFractions
  exact C_compare_loop 124 a b c d 0 0 1000000 M (qge_pow 62 a b hb) (by omega) (by omega) ha hb hc hd hb0 hd0 (by omega)
