/-! THE TAPE, FED -/
def fdB (a2 a3 a4 a5 a6 : Int32) (i : Nat) : Int32 := if i = 0 then a2 else if i = 1 then a3 else if i = 2 then a4 else if i = 3 then a5 else a6
theorem C_isByte (x : Int32) (M : pm_M) : sC_isByte x M = some (b2i (pm_in x 256), M) := by
  unfold sC_isByte
  by_cases h0 : x < 0
  · rw [if_pos h0, b2i_f (fun q => absurd h0 (by obtain ⟨k, hk, hk2, rfl⟩ := pm_kx q; exact nI_nneg hk2))]
  · rw [if_neg h0]
    obtain ⟨k, hk, rfl⟩ := nI_ex h0
    rw [show (255 : Int32) = nI 255 from rfl]
    by_cases h4 : 255 < k
    · rw [if_pos ((nI_lt_iff (by omega) hk).mpr h4), b2i_f (by rw [nI_in_iff hk]; omega)]
    · rw [if_neg (fun q => h4 ((nI_lt_iff (by omega) hk).mp q)), b2i_t (by rw [nI_in_iff hk]; omega)]
/-- i more bytes stand on the class's tape -/
def fdC (M : pm_M) (n : Nat) (B : Nat → Int32) (i : Nat) (a : pm_M) : Prop := (∀ b, b ≠ 37 → b ≠ 38 → a.1 b = M.1 b) ∧ a.2 = M.2 ∧ a.1 37 0 = nI (n + i) ∧ ∀ k, a.1 38 k = if n ≤ k ∧ k < n + i then B (k - n) else M.1 38 k
def fdR (M : pm_M) (n : Nat) (B : Nat → Int32) (i : Nat) (a : pm_M) : Prop := (∀ b, b ≠ 49 → b ≠ 56 → a.1 b = M.1 b) ∧ a.2 = M.2 ∧ (∀ k, k ≠ 9 → a.1 49 k = M.1 49 k) ∧ a.1 49 9 = nI (n + i) ∧ ∀ k, a.1 56 k = if n ≤ k ∧ k < n + i then B (k - n) else M.1 56 k
theorem fdC_s {M a : pm_M} {n i : Nat} {B : Nat → Int32} (hn : n + i < 60) (h : fdC M n B i a) : ∃ a', sTape_append (B i) a = some a' ∧ fdC M n B (i + 1) a' := by
  obtain ⟨h1, h2, h3, h4⟩ := h
  unfold sTape_append
  rw [h3, if_pos (by rw [show (60 : Int32) = nI 60 from rfl, nI_lt_iff (by omega) (by omega)]; exact hn), if_pos (by rw [nI_in_iff (by omega)]; exact hn), nI_cl _ (by omega), q_lt, q_lt]
  refine ⟨_, rfl, fun b b1 b2 => by rw [sI_1, if_neg b1, sI_1, if_neg b2, h1 b b1 b2], h2, ?_, fun k => ?_⟩
  · rw [sI_1, if_pos rfl, upd_at, sI_1, if_neg (by decide), h3, ← nI_succ]
    rfl
  · rw [sI_1, if_neg (by decide), sI_1, if_pos rfl]
    unfold upd
    rw [h4 k]
    by_cases z : k = n + i
    · rw [if_pos z, if_pos (by omega), show k - n = i by omega]
    · rw [if_neg z]
      by_cases z2 : n ≤ k ∧ k < n + i
      · rw [if_pos z2, if_pos (by omega)]
      · rw [if_neg z2, if_neg (by omega)]
theorem C_feed_s {M : pm_M} {n m : Nat} (hn : M.1 37 0 = nI n) (hm : 1 ≤ m) (hm5 : m ≤ 5) (h60 : n + m ≤ 60) {a2 a3 a4 a5 a6 : Int32} (i2 : pm_in a2 256) (i3 : pm_in a3 256) (i4 : pm_in a4 256) (i5 : pm_in a5 256) (i6 : pm_in a6 256) : ∃ a, sC_feed (nI m) a2 a3 a4 a5 a6 M = some (nI (n + m), a) ∧ fdC M n (fdB a2 a3 a4 a5 a6) m a := by
  have hr : sTape_hasRoom (nI m) M = some (1, M) := by
    unfold sTape_hasRoom
    rw [hn, qI_add, if_neg (by rw [show (60 : Int32) = nI 60 from rfl, nI_lt_iff (by omega) (by omega)]; omega)]
  have h0 : fdC M n (fdB a2 a3 a4 a5 a6) 0 M := ⟨fun _ _ _ => rfl, rfl, hn, fun k => by rw [if_neg (by omega)]⟩
  unfold sC_feed
  rw [if_neg (by rw [q1, nI_lt_iff (by omega) (by omega)]; omega), if_pos (by rw [q5, nI_le_iff (by omega) (by omega)]; exact hm5), C_isByte, q_bd, b2i_t i2, if_neg (by decide), C_isByte, q_bd, b2i_t i3, if_neg (by decide), C_isByte, q_bd, b2i_t i4, if_neg (by decide), C_isByte, q_bd, b2i_t i5, if_neg (by decide), C_isByte, q_bd, b2i_t i6, if_pos (by decide), hr, q_bd, if_pos (by decide)]
  obtain ⟨x1, e1, k1⟩ := fdC_s (by omega) h0
  have e1' : sTape_append a2 M = some x1 := e1
  rw [e1', q_bv]
  simp only [q_jn]
  have le : ∀ c : Nat, c < 10 → (nI m ≤ nI c ↔ m ≤ c) := fun c hc => nI_le_iff (by omega) (by omega)
  rw [q1, q2, show (3 : Int32) = nI 3 from rfl, show (4 : Int32) = nI 4 from rfl]
  by_cases w1 : m = 1
  · have k : ∀ c : Nat, 1 ≤ c → c < 10 → nI m ≤ nI c := fun c hc h => (le c h).mpr (by omega)
    rw [if_pos (k 1 (by omega) (by omega)), if_pos (k 2 (by omega) (by omega)), if_pos (k 3 (by omega) (by omega)), if_pos (k 4 (by omega) (by omega)), k1.2.2.1, w1]
    exact ⟨x1, rfl, k1⟩
  obtain ⟨x2, e2, k2⟩ := fdC_s (by omega) k1
  have e2' : sTape_append a3 x1 = some x2 := e2
  rw [if_neg (fun q => by have := (le 1 (by omega)).mp q; omega), e2', q_bv]
  by_cases w2 : m = 2
  · have k : ∀ c : Nat, 2 ≤ c → c < 10 → nI m ≤ nI c := fun c hc h => (le c h).mpr (by omega)
    rw [if_pos (k 2 (by omega) (by omega)), if_pos (k 3 (by omega) (by omega)), if_pos (k 4 (by omega) (by omega)), k2.2.2.1, w2]
    exact ⟨x2, rfl, k2⟩
  obtain ⟨x3, e3, k3⟩ := fdC_s (by omega) k2
  have e3' : sTape_append a4 x2 = some x3 := e3
  rw [if_neg (fun q => by have := (le 2 (by omega)).mp q; omega), e3', q_bv]
  by_cases w3 : m = 3
  · have k : ∀ c : Nat, 3 ≤ c → c < 10 → nI m ≤ nI c := fun c hc h => (le c h).mpr (by omega)
    rw [if_pos (k 3 (by omega) (by omega)), if_pos (k 4 (by omega) (by omega)), k3.2.2.1, w3]
    exact ⟨x3, rfl, k3⟩
  obtain ⟨x4, e4, k4⟩ := fdC_s (by omega) k3
  have e4' : sTape_append a5 x3 = some x4 := e4
  rw [if_neg (fun q => by have := (le 3 (by omega)).mp q; omega), e4', q_bv]
  by_cases w4 : m = 4
  · have k : ∀ c : Nat, 4 ≤ c → c < 10 → nI m ≤ nI c := fun c hc h => (le c h).mpr (by omega)
    rw [if_pos (k 4 (by omega) (by omega)), k4.2.2.1, w4]
    exact ⟨x4, rfl, k4⟩
  obtain ⟨x5, e5, k5⟩ := fdC_s (by omega) k4
  have e5' : sTape_append a6 x4 = some x5 := e5
  have w5 : m = 5 := by omega
  rw [if_neg (fun q => by have := (le 4 (by omega)).mp q; omega), e5', q_bv, k5.2.2.1, w5]
  exact ⟨x5, rfl, k5⟩
theorem R_feed_s {M : pm_M} {n m : Nat} (hn : M.1 49 9 = nI n) (hm : 1 ≤ m) (hm5 : m ≤ 5) (h60 : n + m ≤ 60) {a2 a3 a4 a5 a6 : Int32} (i2 : pm_in a2 256) (i3 : pm_in a3 256) (i4 : pm_in a4 256) (i5 : pm_in a5 256) (i6 : pm_in a6 256) (hr : sR_in (nI m).toInt64 1 5 M = some (1, M)) : ∃ a, sR_feed (nI m) a2 a3 a4 a5 a6 M = some (nI (n + m), a) ∧ fdR M n (fdB a2 a3 a4 a5 a6) m a := by
  unfold sR_feed
  rw [hr, q_bd, if_neg (by decide), R_in0255, q_bd, b2i_t i2, if_neg (by decide), R_in0255, q_bd, b2i_t i3, if_neg (by decide), R_in0255, q_bd, b2i_t i4, if_neg (by decide), R_in0255, q_bd, b2i_t i5, if_neg (by decide), R_in0255, q_bd, b2i_t i6, if_pos (by decide), hn, qI_add, if_pos (by rw [show (60 : Int32) = nI 60 from rfl, nI_le_iff (by omega) (by omega)]; exact h60)]
  refine q_fz (fun r => ∃ a, r = some (nI (n + m), a) ∧ fdR M n (fdB a2 a3 a4 a5 a6) m a) (fun i a (g : Int32 → pm_M → Option (Int32 × pm_M)) => g (nI i) a) (fun i a => fdR M n (fdB a2 a3 a4 a5 a6) i a) m ?_ ?_ (n := 1000000) (a := M) (by omega) ⟨fun _ _ _ => rfl, rfl, fun _ _ => rfl, hn, fun k => by rw [if_neg (by omega)]⟩
  · rintro i a hi ⟨h1, h2, h3, h4, h5⟩ g
    refine ⟨pm_sI (pm_sI a 56 (n + i) (fdB a2 a3 a4 a5 a6 i)) 49 9 (nI (n + i + 1)), ⟨fun b b1 b2 => by rw [sI_1, if_neg b1, sI_1, if_neg b2, h1 b b1 b2], h2, fun k hk => ?_, ?_, fun k => ?_⟩, ?_⟩
    · rw [sI_1, if_pos rfl]
      unfold upd
      rw [if_neg hk, sI_1, if_neg (by decide), h3 k hk]
    · rw [sI_1, if_pos rfl, upd_at]
      rfl
    · rw [sI_1, if_neg (by decide), sI_1, if_pos rfl]
      unfold upd
      rw [h5 k]
      by_cases z : k = n + i
      · rw [if_pos z, if_pos (by omega), show k - n = i by omega]
      · rw [if_neg z]
        by_cases z2 : n ≤ k ∧ k < n + i
        · rw [if_pos z2, if_pos (by omega)]
        · rw [if_neg z2, if_neg (by omega)]
    · rw [if_neg (by rw [nI_le_iff (by omega) (by omega)]; omega)]
      refine q_jk (fun r => r = g (nI (i + 1)) (pm_sI (pm_sI a 56 (n + i) (fdB a2 a3 a4 a5 a6 i)) 49 9 (nI (n + i + 1)))) (fun (J : Int32 → pm_M → Option (Int32 × pm_M)) => J (fdB a2 a3 a4 a5 a6 i) a = g (nI (i + 1)) (pm_sI (pm_sI a 56 (n + i) (fdB a2 a3 a4 a5 a6 i)) 49 9 (nI (n + i + 1)))) ?_ ?_
      · have e49 : (pm_sI a 56 (n + i) (fdB a2 a3 a4 a5 a6 i)).1 49 9 = nI (n + i) := by rw [sI_1, if_neg (by decide), h4]
        rw [h4, if_pos (by rw [nI_in_iff (by omega)]; omega), nI_cl _ (by omega), q_lt, q_lt, e49, ← nI_succ, q_lt, ← nI_succ]
      · intro J hJ
        have eq : ∀ c : Nat, c < 10 → (nI i = nI c ↔ i = c) := fun c hc => nI_inj (by omega) (by omega)
        rw [q0, q1, q2, show (3 : Int32) = nI 3 from rfl]
        unfold fdB at hJ ⊢
        by_cases w0 : i = 0
        · rw [if_neg (fun q => q ((eq 0 (by omega)).mpr w0))]
          rw [if_pos w0] at hJ ⊢; exact hJ
        rw [if_pos (fun q => w0 ((eq 0 (by omega)).mp q))]
        rw [if_neg w0] at hJ ⊢
        by_cases w1 : i = 1
        · rw [if_neg (fun q => q ((eq 1 (by omega)).mpr w1))]
          rw [if_pos w1] at hJ ⊢; exact hJ
        rw [if_pos (fun q => w1 ((eq 1 (by omega)).mp q))]
        rw [if_neg w1] at hJ ⊢
        by_cases w2 : i = 2
        · rw [if_neg (fun q => q ((eq 2 (by omega)).mpr w2))]
          rw [if_pos w2] at hJ ⊢; exact hJ
        rw [if_pos (fun q => w2 ((eq 2 (by omega)).mp q))]
        rw [if_neg w2] at hJ ⊢
        by_cases w3 : i = 3
        · rw [if_neg (fun q => q ((eq 3 (by omega)).mpr w3))]
          rw [if_pos w3] at hJ ⊢; exact hJ
        rw [if_pos (fun q => w3 ((eq 3 (by omega)).mp q))]
        rw [if_neg w3] at hJ ⊢
        exact hJ
  · intro a ha g
    refine ⟨a, ?_, ha⟩
    rw [if_pos (Int32.le_refl _), ha.2.2.2.1]
