/-! NUMBERS, MEMORY, LOOPS: the words of the functions' part -/
theorem q_lt {α β : Type} (e : α) (f : α → β) : pm_lt e f = f e := rfl
theorem q_jn {β ρ : Type} (J : β) (B : β → Option ρ) : pm_jn J B = B J := rfl
theorem q_bd {α ρ : Type} (a : α) (M : pm_M) (f : α → pm_M → Option ρ) : pm_bd (some (a, M)) f = f a M := rfl
theorem q_bv {ρ : Type} (M : pm_M) (f : pm_M → Option ρ) : pm_bv (some M) f = f M := rfl
theorem q_lp {β : Type} (bot : β) (F : β → β) (n : Nat) : pm_loop bot F (n + 1) = F (pm_loop bot F n) := rfl
/-- a loop that comes through the states 0 .. N and leaves there -/
theorem q_for {β ρ : Type} {bot : β} {F : β → β} (ap : Nat → β → Option ρ) {N n : Nat} {e : Option ρ} (hs : ∀ i, i < N → ∀ g, ap i (F g) = ap (i + 1) g) (he : ∀ g, ap N (F g) = e) (hn : N < n) : ap 0 (pm_loop bot F n) = e := by
  have key : ∀ k i m, i + k = N → k < m → ap i (pm_loop bot F m) = e := by
    intro k
    induction k with
    | zero =>
      intro i m h1 h2
      cases m with
      | zero => omega
      | succ m =>
        have : i = N := by omega
        subst this
        exact he _
    | succ k ih =>
      intro i m h1 h2
      cases m with
      | zero => omega
      | succ m =>
        rw [q_lp, hs i (by omega)]
        exact ih (i + 1) m (by omega) (by omega)
  exact key N 0 n (by omega) hn
theorem qI_add (a b : Nat) : nI a + nI b = nI (a + b) := by
  unfold nI
  exact (Int32.ofNat_add a b).symm
theorem nI_mul (a b : Nat) : nI a * nI b = nI (a * b) := by
  unfold nI
  exact (Int32.ofNat_mul a b).symm
theorem nI_sub {a b : Nat} (h : b ≤ a) : nI a - nI b = nI (a - b) := by
  have : nI a = nI (a - b) + nI b := by rw [qI_add]; congr 1; omega
  rw [this, Int32.add_sub_cancel]
theorem nI_le_iff {a b : Nat} (ha : a < 2 ^ 31) (hb : b < 2 ^ 31) : nI a ≤ nI b ↔ a ≤ b := by
  rw [Int32.le_iff_toInt_le, nI_toInt ha, nI_toInt hb]; omega
theorem nI_lt_iff {a b : Nat} (ha : a < 2 ^ 31) (hb : b < 2 ^ 31) : nI a < nI b ↔ a < b := by
  rw [Int32.lt_iff_toInt_lt, nI_toInt ha, nI_toInt hb]; omega
theorem nI_inj {a b : Nat} (ha : a < 2 ^ 31) (hb : b < 2 ^ 31) : nI a = nI b ↔ a = b := by
  constructor
  · intro h
    have h1 := nI_toInt ha
    have h2 := nI_toInt hb
    rw [h] at h1
    omega
  · rintro rfl; rfl
theorem nI_nneg {a : Nat} (ha : a < 2 ^ 31) : ¬ nI a < 0 := nI_pos ha
theorem nI_in_iff {a n : Nat} (ha : a < 2 ^ 31) : pm_in (nI a) n ↔ a < n := by
  unfold pm_in
  rw [nI_clamp ha]
  exact ⟨fun h => h.2, fun h => ⟨nI_nneg ha, h⟩⟩
theorem q0 : (0 : Int32) = nI 0 := rfl
theorem q1 : (1 : Int32) = nI 1 := rfl
theorem q2 : (2 : Int32) = nI 2 := rfl
theorem q3 : (3 : Int32) = nI 3 := rfl
theorem q4 : (4 : Int32) = nI 4 := rfl
theorem q5 : (5 : Int32) = nI 5 := rfl
theorem q6 : (6 : Int32) = nI 6 := rfl
theorem q7 : (7 : Int32) = nI 7 := rfl
theorem q8 : (8 : Int32) = nI 8 := rfl
theorem q9 : (9 : Int32) = nI 9 := rfl
theorem q10 : (10 : Int32) = nI 10 := rfl
theorem q25 : (25 : Int32) = nI 25 := rfl
/-- an int that is none below 0 and below n is a number's -/
theorem qI_of {x : Int32} (h : ¬ x < 0) : x = nI x.toNatClampNeg := by
  have h0 : (0 : Int) ≤ x.toInt := by
    have := Int32.not_lt.mp h
    simpa using Int32.le_iff_toInt_le.mp this
  apply Int32.toInt_inj.mp
  have hb : x.toNatClampNeg < 2 ^ 31 := by
    have := x.toInt_lt
    show x.toInt.toNat < 2 ^ 31
    omega
  rw [nI_toInt hb]
  show x.toInt = ((x.toInt.toNat : Nat) : Int)
  omega
theorem nI_ex {x : Int32} (h : ¬ x < 0) : ∃ k : Nat, k < 2 ^ 31 ∧ x = nI k := ⟨x.toNatClampNeg, by have := x.toInt_lt; show x.toInt.toNat < 2 ^ 31; omega, qI_of h⟩
/-! longs -/
def nL (n : Nat) : Int64 := Int64.ofNat n
theorem nL_toInt {n : Nat} (h : n < 2 ^ 63) : (nL n).toInt = (n : Int) := Int64.toInt_ofNat_of_lt h
theorem nI_toL {a : Nat} (h : a < 2 ^ 31) : (nI a).toInt64 = nL a := by
  apply Int64.toInt_inj.mp
  rw [Int32.toInt_toInt64, nI_toInt h, nL_toInt (by omega)]
theorem nL_add (a b : Nat) : nL a + nL b = nL (a + b) := by unfold nL; exact (Int64.ofNat_add a b).symm
theorem nL_mul (a b : Nat) : nL a * nL b = nL (a * b) := by unfold nL; exact (Int64.ofNat_mul a b).symm
theorem nL_le_iff {a b : Nat} (ha : a < 2 ^ 63) (hb : b < 2 ^ 63) : nL a ≤ nL b ↔ a ≤ b := by
  rw [Int64.le_iff_toInt_le, nL_toInt ha, nL_toInt hb]; omega
theorem nL_lt_iff {a b : Nat} (ha : a < 2 ^ 63) (hb : b < 2 ^ 63) : nL a < nL b ↔ a < b := by
  rw [Int64.lt_iff_toInt_lt, nL_toInt ha, nL_toInt hb]; omega
theorem nL_inj {a b : Nat} (ha : a < 2 ^ 63) (hb : b < 2 ^ 63) : nL a = nL b ↔ a = b := by
  constructor
  · intro h
    have h1 := nL_toInt ha
    have h2 := nL_toInt hb
    rw [h] at h1
    omega
  · rintro rfl; rfl
theorem cmp_lt (x y : Int64) : lg_cmp x y < 0 ↔ x < y := by
  unfold lg_cmp
  by_cases h1 : x > y
  · rw [if_pos h1]
    exact ⟨fun h => absurd h (by decide), fun h => absurd h (Int64.lt_asymm h1)⟩
  · rw [if_neg h1]
    by_cases h2 : x = y
    · rw [if_pos h2]
      exact ⟨fun h => absurd h (by decide), fun h => absurd h (by rw [h2]; exact Int64.lt_irrefl)⟩
    · rw [if_neg h2]
      exact ⟨fun _ => Int64.lt_of_le_of_ne (Int64.not_lt.mp h1) h2, fun _ => by decide⟩
theorem cmp_gt (x y : Int64) : 0 < lg_cmp x y ↔ y < x := by
  unfold lg_cmp
  by_cases h1 : x > y
  · rw [if_pos h1]
    exact ⟨fun _ => h1, fun _ => by decide⟩
  · rw [if_neg h1]
    by_cases h2 : x = y
    · rw [if_pos h2]
      exact ⟨fun h => absurd h (by decide), fun h => absurd h h1⟩
    · rw [if_neg h2]
      exact ⟨fun h => absurd h (by decide), fun h => absurd h h1⟩
theorem cmp_eq (x y : Int64) : lg_cmp x y = 0 ↔ x = y := by
  unfold lg_cmp
  by_cases h1 : x > y
  · rw [if_pos h1]
    exact ⟨fun h => absurd h (by decide), fun h => absurd h1 (by rw [h]; exact Int64.lt_irrefl)⟩
  · rw [if_neg h1]
    by_cases h2 : x = y
    · rw [if_pos h2]
      exact ⟨fun _ => h2, fun _ => rfl⟩
    · rw [if_neg h2]
      exact ⟨fun h => absurd h (by decide), fun h => absurd h h2⟩
theorem cmp_le (x y : Int64) : lg_cmp x y ≤ 0 ↔ x ≤ y := by
  rw [← Int32.not_lt, cmp_gt, Int64.not_lt]
theorem cmp_ge (x y : Int64) : 0 ≤ lg_cmp x y ↔ y ≤ x := by
  rw [← Int32.not_lt, cmp_lt, Int64.not_lt]
/-! memory: a whole row set -/
def mu_I (M : pm_M) (a : Nat) (f : Nat → Int32) : pm_M := (fun b => if b = a then f else M.1 b, M.2)
def mu_L (M : pm_M) (a : Nat) (f : Nat → Int64) : pm_M := (M.1, fun b => if b = a then f else M.2 b)
theorem sI_1 (M : pm_M) (a k : Nat) (v : Int32) (b : Nat) : (pm_sI M a k v).1 b = if b = a then upd (M.1 a) k v else M.1 b := by
  funext j
  by_cases hb : b = a
  · subst hb; simp [pm_sI, upd]
  · simp [pm_sI, hb]
theorem sI_2 (M : pm_M) (a k : Nat) (v : Int32) : (pm_sI M a k v).2 = M.2 := rfl
theorem sL_1 (M : pm_M) (a k : Nat) (v : Int64) : (pm_sL M a k v).1 = M.1 := rfl
theorem sL_2 (M : pm_M) (a k : Nat) (v : Int64) (b : Nat) : (pm_sL M a k v).2 b = if b = a then vp_updL (M.2 a) k v else M.2 b := by
  funext j
  by_cases hb : b = a
  · subst hb; simp [pm_sL, vp_updL]
  · simp [pm_sL, hb]
theorem uI_1 (M : pm_M) (a : Nat) (f : Nat → Int32) (b : Nat) : (mu_I M a f).1 b = if b = a then f else M.1 b := rfl
theorem uI_2 (M : pm_M) (a : Nat) (f : Nat → Int32) : (mu_I M a f).2 = M.2 := rfl
theorem uL_1 (M : pm_M) (a : Nat) (f : Nat → Int64) : (mu_L M a f).1 = M.1 := rfl
theorem uL_2 (M : pm_M) (a : Nat) (f : Nat → Int64) (b : Nat) : (mu_L M a f).2 b = if b = a then f else M.2 b := rfl
theorem sI_u (M : pm_M) (a k : Nat) (v : Int32) : pm_sI M a k v = mu_I M a (upd (M.1 a) k v) := by
  apply Prod.ext
  · funext b; rw [sI_1]; rfl
  · rfl
theorem sL_u (M : pm_M) (a k : Nat) (v : Int64) : pm_sL M a k v = mu_L M a (vp_updL (M.2 a) k v) := by
  apply Prod.ext
  · rfl
  · funext b; rw [sL_2]; rfl
theorem uI_uI (M : pm_M) (a : Nat) (f g : Nat → Int32) : mu_I (mu_I M a f) a g = mu_I M a g := by
  apply Prod.ext
  · funext b
    by_cases hb : b = a <;> simp [mu_I, hb]
  · rfl
theorem uL_uL (M : pm_M) (a : Nat) (f g : Nat → Int64) : mu_L (mu_L M a f) a g = mu_L M a g := by
  apply Prod.ext
  · rfl
  · funext b
    by_cases hb : b = a <;> simp [mu_L, hb]
theorem uI_self (M : pm_M) (a : Nat) : mu_I M a (M.1 a) = M := by
  apply Prod.ext
  · funext b
    by_cases hb : b = a
    · subst hb; simp [mu_I]
    · simp [mu_I, hb]
  · rfl
theorem uL_self (M : pm_M) (a : Nat) : mu_L M a (M.2 a) = M := by
  apply Prod.ext
  · rfl
  · funext b
    by_cases hb : b = a
    · subst hb; simp [mu_L]
    · simp [mu_L, hb]
/-- what stays: all cells but those of a list -/
def pm_fr (l : List Nat) (M M' : pm_M) : Prop := ∀ b, b ∉ l → M'.1 b = M.1 b ∧ M'.2 b = M.2 b
theorem fr_rf {l : List Nat} {M : pm_M} : pm_fr l M M := fun _ _ => ⟨rfl, rfl⟩
theorem fr_tr {l : List Nat} {M M1 M2 : pm_M} (h1 : pm_fr l M M1) (h2 : pm_fr l M1 M2) : pm_fr l M M2 := fun b hb => ⟨(h2 b hb).1.trans (h1 b hb).1, (h2 b hb).2.trans (h1 b hb).2⟩
theorem fr_sub {l l' : List Nat} {M M' : pm_M} (h : pm_fr l M M') (hl : ∀ x ∈ l, x ∈ l') : pm_fr l' M M' := fun b hb => h b (fun q => hb (hl b q))
theorem fr_uI {l : List Nat} {M : pm_M} {a : Nat} {f : Nat → Int32} (h : a ∈ l) : pm_fr l M (mu_I M a f) := fun b hb => by
  have : b ≠ a := fun q => hb (q ▸ h)
  exact ⟨by simp [mu_I, this], rfl⟩
theorem fr_uL {l : List Nat} {M : pm_M} {a : Nat} {f : Nat → Int64} (h : a ∈ l) : pm_fr l M (mu_L M a f) := fun b hb => by
  have : b ≠ a := fun q => hb (q ▸ h)
  exact ⟨rfl, by simp [mu_L, this]⟩
theorem fr_sI {l : List Nat} {M : pm_M} {a k : Nat} {v : Int32} (h : a ∈ l) : pm_fr l M (pm_sI M a k v) := by rw [sI_u]; exact fr_uI h
theorem fr_sL {l : List Nat} {M : pm_M} {a k : Nat} {v : Int64} (h : a ∈ l) : pm_fr l M (pm_sL M a k v) := by rw [sL_u]; exact fr_uL h
/-- 1 for what holds, 0 else -/
def b2i (p : Prop) [Decidable p] : Int32 := if p then 1 else 0
theorem b2i_0 {p : Prop} [Decidable p] : b2i p = 0 ↔ ¬ p := by
  unfold b2i
  by_cases h : p
  · rw [if_pos h]; exact ⟨fun q => absurd q (by decide), fun q => absurd h q⟩
  · rw [if_neg h]; exact ⟨fun _ => h, fun _ => rfl⟩
theorem b2i_1 {p : Prop} [Decidable p] : b2i p = 1 ↔ p := by
  unfold b2i
  by_cases h : p
  · rw [if_pos h]; exact ⟨fun _ => h, fun _ => rfl⟩
  · rw [if_neg h]; exact ⟨fun q => absurd q (by decide), fun q => absurd q h⟩
