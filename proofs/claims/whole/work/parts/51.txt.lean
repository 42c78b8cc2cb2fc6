/-! THE TAPE, READ: where the fault is, the class's side -/
def tsz (L : Nat) : Nat := if L = 104 then 3 else if L = 110 then 3 else if L = 114 then 5 else if L = 115 then 4 else 0
theorem tsz_5 (L : Nat) : tsz L ≤ 5 := by
  unfold tsz
  split
  · omega
  · split
    · omega
    · split
      · omega
      · split <;> omega
theorem tsz_2 {L : Nat} (h : tsz L ≠ 0) : 3 ≤ tsz L := by
  unfold tsz at h ⊢
  split
  · omega
  · rename_i h1
    rw [if_neg h1] at h
    split
    · omega
    · rename_i h2
      rw [if_neg h2] at h
      split
      · omega
      · rename_i h3
        rw [if_neg h3] at h
        split
        · omega
        · rename_i h4
          rw [if_neg h4] at h
          exact absurd rfl h
theorem C_size {L : Nat} (hL : L < 256) (M : pm_M) : sTape_clauseSize (nI L) M = some (nI (tsz L), M) := by
  unfold sTape_clauseSize tsz
  have e : ∀ c : Nat, c < 256 → (nI L = Int32.ofNat c ↔ L = c) := fun c hc => nI_inj (by omega) (by omega)
  by_cases h1 : L = 104
  · rw [if_pos ((e 104 (by omega)).mpr h1), if_pos h1]; rfl
  rw [if_neg (fun q => h1 ((e 104 (by omega)).mp q)), if_neg h1]
  by_cases h2 : L = 110
  · rw [if_pos ((e 110 (by omega)).mpr h2), if_pos h2]; rfl
  rw [if_neg (fun q => h2 ((e 110 (by omega)).mp q)), if_neg h2]
  by_cases h3 : L = 114
  · rw [if_pos ((e 114 (by omega)).mpr h3), if_pos h3]; rfl
  rw [if_neg (fun q => h3 ((e 114 (by omega)).mp q)), if_neg h3]
  by_cases h4 : L = 115
  · rw [if_pos ((e 115 (by omega)).mpr h4), if_pos h4]; rfl
  rw [if_neg (fun q => h4 ((e 115 (by omega)).mp q)), if_neg h4]
  rfl
def tdg (b : Nat → Nat) (n p : Nat) : Nat → Nat → Option Nat
  | 0, _ => none
  | m + 1, i => if p + i < n ∧ 48 ≤ b (p + i) ∧ b (p + i) ≤ 57 then tdg b n p m (i + 1) else some (p + i)
def tfa (b : Nat → Nat) (n : Nat) : Nat → Nat → Option Nat
  | 0, p => some p
  | f + 1, p => if n ≤ p then some p else if tsz (b p) = 0 then some p else match tdg b n p (tsz (b p) - 1) 1 with
    | some q => some q
    | none => if n ≤ p + tsz (b p) then none else if b (p + tsz (b p)) = 59 then tfa b n f (p + tsz (b p) + 1) else some (p + tsz (b p))
def tfB : (Int32 → Int32 → pm_M → Option (Int32 × pm_M)) → Int32 → Int32 → pm_M → Option (Int32 × pm_M) := (fun (g1 : Int32 → Int32 → pm_M → Option (Int32 × pm_M)) x3 x4 M2 => if (M2.1 37 0) ≤ x4 then (if ¬ x3 = (M2.1 37 0) then (some ((M2.1 37 0), M2)) else (if (M2.1 37 0) ≤ 0 then (some ((M2.1 37 0), M2)) else (some ((-1 : Int32), M2)))) else (if pm_in x4 60 then (pm_lt ((M2.1 38 x4.toNatClampNeg)) fun x5 => pm_jn (fun (x8 : Int32) (x9 : Int32) (M7 : pm_M) => if ¬ x9 = 0 then (pm_lt ((x4 + (1 : Int32))) fun x10 => g1 x8 x10 M7) else (some (x4, M7))) fun (j6 : Int32 → Int32 → pm_M → Option (Int32 × pm_M)) => pm_jn (fun (M12 : pm_M) => pm_jn (fun (M14 : pm_M) => pm_bd (sTape_clauseSize x5 M14) fun v16 M15 => pm_jn (fun (q19 : Int32) (M18 : pm_M) => pm_bd (sTape_clauseSize x5 M18) fun v21 M20 => pm_lt ((x4 + v21)) fun x22 => j6 x22 q19 M20) fun (j17 : Int32 → pm_M → Option (Int32 × pm_M)) => if v16 ≤ 0 then (j17 (0 : Int32) M15) else (j17 (1 : Int32) M15)) fun (j13 : pm_M → Option (Int32 × pm_M)) => if x4 = 0 then (j13 M12) else (if ¬ x4 = (x3 + (1 : Int32)) then (if x5 < (48 : Int32) then (j6 x3 (0 : Int32) M12) else (if (57 : Int32) < x5 then (j6 x3 (0 : Int32) M12) else (j6 x3 (1 : Int32) M12))) else (j13 M12))) fun (j11 : pm_M → Option (Int32 × pm_M)) => if ¬ x4 = x3 then (j11 M2) else (if x4 ≤ 0 then (j11 M2) else (if ¬ x5 = (59 : Int32) then (j6 x3 (0 : Int32) M2) else (j6 x3 (1 : Int32) M2)))) else none))
theorem tf_loop (M : pm_M) : sTape_faultPlace M = pm_loop (fun _ _ _ => none) tfB 1000000 (0 : Int32) (0 : Int32) M := rfl
def tpC (M : pm_M) (n : Nat) (b : Nat → Nat) : Prop := n ≤ 60 ∧ M.1 37 0 = nI n ∧ ∀ k, k < n → b k < 256 ∧ M.1 38 k = nI (b k)
theorem tfB_end {M : pm_M} {n e p : Nat} {b : Nat → Nat} (h : tpC M n b) (he : e ≤ 100) (hp : p ≤ 100) (hnp : n ≤ p) (g : Int32 → Int32 → pm_M → Option (Int32 × pm_M)) : tfB g (nI e) (nI p) M = if e = n ∧ n ≠ 0 then some (-1, M) else some (nI n, M) := by
  obtain ⟨h1, h2, h3⟩ := h
  unfold tfB
  rw [h2, if_pos ((nI_le_iff (by omega) (by omega)).mpr hnp)]
  by_cases z : e = n
  · rw [if_neg (fun q => q (by rw [z]))]
    by_cases w : n = 0
    · rw [if_pos (by rw [w]; decide), if_neg (fun q => q.2 w)]
    · rw [if_neg (by rw [q0, nI_le_iff (by omega) (by omega)]; omega), if_pos ⟨z, w⟩]
  · rw [if_pos (fun q => z ((nI_inj (by omega) (by omega)).mp q)), if_neg (fun q => z q.1)]
theorem tfB_start {M : pm_M} {n e p : Nat} {b : Nat → Nat} (h : tpC M n b) (he : e ≤ 100) (hp : p < n) (hs : (p = 0 ∧ e = 0) ∨ p = e + 1) (g : Int32 → Int32 → pm_M → Option (Int32 × pm_M)) : tfB g (nI e) (nI p) M = if tsz (b p) = 0 then some (nI p, M) else g (nI (p + tsz (b p))) (nI (p + 1)) M := by
  obtain ⟨h1, h2, h3⟩ := h
  obtain ⟨h4, h5⟩ := h3 p hp
  have ht := tsz_5 (b p)
  unfold tfB
  rw [h2, if_neg (by rw [nI_le_iff (by omega) (by omega)]; omega), if_pos (by rw [nI_in_iff (by omega)]; omega), nI_cl p (by omega), h5, q_lt]
  refine q_jk (fun r => r = if tsz (b p) = 0 then some (nI p, M) else g (nI (p + tsz (b p))) (nI (p + 1)) M) (fun (J : Int32 → Int32 → pm_M → Option (Int32 × pm_M)) => (tsz (b p) = 0 → J 0 0 M = some (nI p, M) ∨ True) ∧ ∀ x9 : Int32, ∀ x8 : Int32, J x8 x9 M = if ¬ x9 = 0 then g x8 (nI (p + 1)) M else some (nI p, M)) ⟨fun _ => Or.inr trivial, fun x9 x8 => ?_⟩ ?_
  · by_cases z : x9 = 0
    · rw [if_neg (fun q => q z), if_neg (fun q => q z)]
    · rw [if_pos z, if_pos z, q_lt, ← nI_succ]
  · rintro J ⟨-, hJ⟩
    have main : (pm_jn (fun (M12 : pm_M) => pm_jn (fun (M14 : pm_M) => pm_bd (sTape_clauseSize (nI (b p)) M14) fun v16 M15 => pm_jn (fun (q19 : Int32) (M18 : pm_M) => pm_bd (sTape_clauseSize (nI (b p)) M18) fun v21 M20 => pm_lt ((nI p + v21)) fun x22 => J x22 q19 M20) fun (j17 : Int32 → pm_M → Option (Int32 × pm_M)) => if v16 ≤ 0 then (j17 (0 : Int32) M15) else (j17 (1 : Int32) M15)) fun (j13 : pm_M → Option (Int32 × pm_M)) => if nI p = 0 then (j13 M12) else (if ¬ nI p = (nI e + (1 : Int32)) then (if nI (b p) < (48 : Int32) then (J (nI e) (0 : Int32) M12) else (if (57 : Int32) < nI (b p) then (J (nI e) (0 : Int32) M12) else (J (nI e) (1 : Int32) M12))) else (j13 M12))) fun (j11 : pm_M → Option (Int32 × pm_M)) => j11 M) = if tsz (b p) = 0 then some (nI p, M) else g (nI (p + tsz (b p))) (nI (p + 1)) M := by
      rw [q_jn]
      dsimp only
      rw [q_jn]
      have fin : (pm_bd (sTape_clauseSize (nI (b p)) M) fun v16 M15 => pm_jn (fun (q19 : Int32) (M18 : pm_M) => pm_bd (sTape_clauseSize (nI (b p)) M18) fun v21 M20 => pm_lt ((nI p + v21)) fun x22 => J x22 q19 M20) fun (j17 : Int32 → pm_M → Option (Int32 × pm_M)) => if v16 ≤ 0 then (j17 (0 : Int32) M15) else (j17 (1 : Int32) M15)) = if tsz (b p) = 0 then some (nI p, M) else g (nI (p + tsz (b p))) (nI (p + 1)) M := by
        rw [C_size h4, q_bd, q_jn]
        by_cases z : tsz (b p) = 0
        · rw [if_pos (show nI (tsz (b p)) ≤ 0 by rw [z]; decide), if_pos z]
          dsimp only
          rw [C_size h4, q_bd, q_lt, hJ, if_neg (fun q => q rfl)]
        · rw [if_neg (show ¬ nI (tsz (b p)) ≤ 0 by rw [q0, nI_le_iff (by omega) (by omega)]; omega), if_neg z]
          dsimp only
          rw [C_size h4, q_bd, q_lt, hJ, if_pos (by decide), qI_add]
      dsimp only
      rcases hs with ⟨w1, w2⟩ | w
      · rw [if_pos (show nI p = 0 by rw [w1]; rfl)]
        exact fin
      · rw [if_neg (show ¬ nI p = 0 by rw [q0, nI_inj (by omega) (by omega)]; omega), if_neg (fun q => q (by rw [w, nI_succ]))]
        exact fin
    rw [q_jn]
    rw [q_jn] at main
    rcases hs with ⟨w1, w2⟩ | w
    · rw [if_neg (fun q => q (by rw [w1, w2])), if_pos (show nI p ≤ 0 by rw [w1]; decide)]
      exact main
    · rw [if_pos (fun q => by have := (nI_inj (by omega) (by omega)).mp q; omega)]
      exact main
theorem tfB_in {M : pm_M} {n e p : Nat} {b : Nat → Nat} (h : tpC M n b) (he : e ≤ 100) (hp : p < n) (h0 : 0 < p) (hpe : p < e) (g : Int32 → Int32 → pm_M → Option (Int32 × pm_M)) : tfB g (nI e) (nI p) M = if 48 ≤ b p ∧ b p ≤ 57 then g (nI e) (nI (p + 1)) M else some (nI p, M) := by
  obtain ⟨h1, h2, h3⟩ := h
  obtain ⟨h4, h5⟩ := h3 p hp
  unfold tfB
  rw [h2, if_neg (by rw [nI_le_iff (by omega) (by omega)]; omega), if_pos (by rw [nI_in_iff (by omega)]; omega), nI_cl p (by omega), h5, q_lt, q_jn, q_jn, if_pos (fun q => by have := (nI_inj (by omega) (by omega)).mp q; omega)]
  dsimp only
  rw [q_jn, if_neg (show ¬ nI p = 0 by rw [q0, nI_inj (by omega) (by omega)]; omega), if_pos (show ¬ nI p = nI e + 1 by rw [← nI_succ, nI_inj (by omega) (by omega)]; omega), show (48 : Int32) = nI 48 from rfl, show (57 : Int32) = nI 57 from rfl]
  by_cases z1 : b p < 48
  · rw [if_pos ((nI_lt_iff (by omega) (by omega)).mpr z1), if_neg (fun q => q rfl), if_neg (by omega)]
  rw [if_neg (fun q => z1 ((nI_lt_iff (by omega) (by omega)).mp q))]
  by_cases z2 : 57 < b p
  · rw [if_pos ((nI_lt_iff (by omega) (by omega)).mpr z2), if_neg (fun q => q rfl), if_neg (by omega)]
  · rw [if_neg (fun q => z2 ((nI_lt_iff (by omega) (by omega)).mp q)), if_pos (by decide), if_pos (by omega), q_lt, ← nI_succ]
theorem tfB_sep {M : pm_M} {n p : Nat} {b : Nat → Nat} (h : tpC M n b) (hp : p < n) (h0 : 0 < p) (g : Int32 → Int32 → pm_M → Option (Int32 × pm_M)) : tfB g (nI p) (nI p) M = if b p = 59 then g (nI p) (nI (p + 1)) M else some (nI p, M) := by
  obtain ⟨h1, h2, h3⟩ := h
  obtain ⟨h4, h5⟩ := h3 p hp
  unfold tfB
  rw [h2, if_neg (by rw [nI_le_iff (by omega) (by omega)]; omega), if_pos (by rw [nI_in_iff (by omega)]; omega), nI_cl p (by omega), h5, q_lt, q_jn, q_jn, if_neg (fun q => q rfl), if_neg (by rw [q0, nI_le_iff (by omega) (by omega)]; omega), show (59 : Int32) = nI 59 from rfl]
  by_cases z : b p = 59
  · rw [if_neg (fun q => q (by rw [z])), if_pos z]
    dsimp only
    rw [if_pos (by decide), q_lt, ← nI_succ]
  · rw [if_pos (fun q => z ((nI_inj (by omega) (by omega)).mp q)), if_neg z]
    dsimp only
    rw [if_neg (fun q => q rfl)]
theorem tf_dig {M : pm_M} {n e p : Nat} {b : Nat → Nat} (h : tpC M n b) (he : e ≤ 100) : ∀ (m i k : Nat), 0 < p + i → p + i ≤ n → e = p + i + m → m < k → pm_loop (fun _ _ _ => none) tfB k (nI e) (nI (p + i)) M = match tdg b n p m i with
    | some q => some (nI q, M)
    | none => pm_loop (fun _ _ _ => none) tfB (k - m) (nI e) (nI e) M
  | 0, i, k, _, _, h2, _ => by
    show _ = pm_loop (fun _ _ _ => none) tfB (k - 0) (nI e) (nI e) M
    rw [h2]
    rfl
  | m + 1, i, k + 1, h0, h1, h2, h3 => by
    rw [q_lp]
    unfold tdg
    by_cases z : p + i < n
    · rw [tfB_in h he z h0 (by omega)]
      by_cases w : 48 ≤ b (p + i) ∧ b (p + i) ≤ 57
      · rw [if_pos w, if_pos ⟨z, w.1, w.2⟩, show p + i + 1 = p + (i + 1) by omega, tf_dig h he m (i + 1) k (by omega) (by omega) (by omega) (by omega), show k + 1 - (m + 1) = k - m by omega]
      · rw [if_neg w, if_neg (fun q => w q.2)]
    · rw [if_neg (fun q => z q.1), tfB_end h he (by have := h.1; omega) (by omega), if_neg (by omega), show n = p + i by omega]
theorem tdg_n {b : Nat → Nat} {n p : Nat} : ∀ m i, p + i ≤ n → tdg b n p m i = none → p + i + m ≤ n
  | 0, _, h, _ => h
  | m + 1, i, h, e => by
    unfold tdg at e
    by_cases z : p + i < n ∧ 48 ≤ b (p + i) ∧ b (p + i) ≤ 57
    · rw [if_pos z] at e
      have := tdg_n m (i + 1) (by omega) e
      omega
    · rw [if_neg z] at e
      cases e
theorem tf_all {M : pm_M} {n : Nat} {b : Nat → Nat} (h : tpC M n b) : ∀ (f p e k : Nat), (p = 0 ∧ e = 0) ∨ p = e + 1 → p ≤ n → n - p < f → n - p + 10 < k → pm_loop (fun _ _ _ => none) tfB k (nI e) (nI p) M = match tfa b n f p with
    | some q => some (nI q, M)
    | none => some (-1, M)
  | 0, p, e, k, _, _, hf, _ => by omega
  | f + 1, p, e, 0, _, _, _, hk => by omega
  | f + 1, p, e, k + 1, hs, hp, hf, hk => by
    have h60 := h.1
    rw [q_lp]
    unfold tfa
    by_cases z : n ≤ p
    · rw [if_pos z, tfB_end h (by omega) (by omega) z, if_neg (by omega), show n = p by omega]
    rw [if_neg z, tfB_start h (by omega) (by omega) hs]
    by_cases w : tsz (b p) = 0
    · rw [if_pos w, if_pos w]
    rw [if_neg w, if_neg w]
    have t5 := tsz_5 (b p)
    have t3 := tsz_2 w
    rw [tf_dig h (show p + tsz (b p) ≤ 100 by omega) (tsz (b p) - 1) 1 k (by omega) (by omega) (by omega) (by omega)]
    cases e1 : tdg b n p (tsz (b p) - 1) 1 with
    | some q => rfl
    | none =>
      have hle := tdg_n _ _ (by omega) e1
      dsimp only
      obtain ⟨k', ek⟩ : ∃ k', k - (tsz (b p) - 1) = k' + 1 := ⟨k - (tsz (b p) - 1) - 1, by omega⟩
      rw [ek, q_lp]
      by_cases y : n ≤ p + tsz (b p)
      · rw [if_pos y, tfB_end h (by omega) (by omega) y, if_pos (by omega)]
      rw [if_neg y, tfB_sep h (by omega) (by omega)]
      by_cases y2 : b (p + tsz (b p)) = 59
      · rw [if_pos y2, if_pos y2]
        exact tf_all h f (p + tsz (b p) + 1) (p + tsz (b p)) k' (Or.inr rfl) (by omega) (by omega) (by omega)
      · rw [if_neg y2, if_neg y2]
theorem C_fault {M : pm_M} {n : Nat} {b : Nat → Nat} (h : tpC M n b) : sTape_faultPlace M = some (match tfa b n 61 0 with
    | some q => nI q
    | none => -1, M) := by
  have := tf_all h 61 0 0 1000000 (Or.inl ⟨rfl, rfl⟩) (Nat.zero_le _) (by have := h.1; omega) (by have := h.1; omega)
  rw [tf_loop]
  refine this.trans ?_
  cases tfa b n 61 0 with
  | some q => rfl
  | none => rfl
