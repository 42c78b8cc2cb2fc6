/-! THE TAPE, READ: the reference's clause -/
def tok (b : Nat → Nat) (n x : Nat) : Prop := x < n ∧ 48 ≤ b x ∧ b x ≤ 57
theorem tdg_ok {b : Nat → Nat} {n p : Nat} : ∀ m j, (∀ i, i < m → tok b n (p + j + i)) → tdg b n p m j = none
  | 0, _, _ => rfl
  | m + 1, j, h => by
    unfold tdg
    rw [if_pos (show p + j < n ∧ 48 ≤ b (p + j) ∧ b (p + j) ≤ 57 from h 0 (Nat.succ_pos m))]
    refine tdg_ok m (j + 1) (fun i hi => ?_)
    have := h (i + 1) (by omega)
    rwa [show p + j + (i + 1) = p + (j + 1) + i by omega] at this
theorem tdg_bad {b : Nat → Nat} {n p : Nat} : ∀ m j i, i < m → (∀ i', i' < i → tok b n (p + j + i')) → ¬ tok b n (p + j + i) → tdg b n p m j = some (p + j + i)
  | 0, _, _, h, _, _ => by omega
  | m + 1, j, 0, _, _, hn => by
    unfold tdg
    rw [if_neg (show ¬ (p + j < n ∧ 48 ≤ b (p + j) ∧ b (p + j) ≤ 57) from hn)]
    rfl
  | m + 1, j, i + 1, hi, h, hn => by
    unfold tdg
    rw [if_pos (show p + j < n ∧ 48 ≤ b (p + j) ∧ b (p + j) ≤ 57 from h 0 (Nat.succ_pos i)), show p + j + (i + 1) = p + (j + 1) + i by omega]
    refine tdg_bad m (j + 1) i (by omega) (fun i' hi' => ?_) ?_
    · have := h (i' + 1) (by omega)
      rwa [show p + j + (i' + 1) = p + (j + 1) + i' by omega] at this
    · rwa [show p + j + (i + 1) = p + (j + 1) + i by omega] at hn
def clf (b : Nat → Nat) (n p : Nat) : Option Nat := if n ≤ p then some p else if tsz (b p) = 0 then some p else tdg b n p (tsz (b p) - 1) 1
theorem tfa_s (b : Nat → Nat) (n f p : Nat) : tfa b n (f + 1) p = match clf b n p with
    | some q => some q
    | none => if n ≤ p + tsz (b p) then none else if b (p + tsz (b p)) = 59 then tfa b n f (p + tsz (b p) + 1) else some (p + tsz (b p)) := by
  unfold clf
  show (if n ≤ p then some p else if tsz (b p) = 0 then some p else _) = _
  by_cases z : n ≤ p
  · rw [if_pos z, if_pos z]
  rw [if_neg z, if_neg z]
  by_cases w : tsz (b p) = 0
  · rw [if_pos w, if_pos w]
  rw [if_neg w, if_neg w]
  cases tdg b n p (tsz (b p) - 1) 1 <;> rfl
def tpR (M : pm_M) (n : Nat) (b : Nat → Nat) : Prop := n ≤ 60 ∧ M.1 49 9 = nI n ∧ ∀ k, k < n → b k < 256 ∧ M.1 56 k = nI (b k)
def rfr (M a : pm_M) : Prop := (∀ b, b ≠ 49 → b ≠ 57 → b ≠ 58 → a.1 b = M.1 b) ∧ a.2 = M.2 ∧ ∀ k, k ≠ 10 → k ≠ 11 → a.1 49 k = M.1 49 k
def rrc (a : pm_M) (b : Nat → Nat) (c p : Nat) : Prop := a.1 57 c = nI (b p) ∧ ∀ i, i + 1 < tsz (b p) → a.1 58 (4 * c + i) = nI (b (p + 1 + i) - 48)
theorem tsz_pos {L : Nat} {ρ : Type} (J : Int32 → pm_M → Option ρ) (M2 : pm_M) (hL : L < 256) : (if ¬ nI L = (115 : Int32) then (if ¬ nI L = (114 : Int32) then (if nI L = (104 : Int32) then (J (2 : Int32) M2) else (if ¬ nI L = (110 : Int32) then (J (0 : Int32) M2) else (J (2 : Int32) M2))) else (J (4 : Int32) M2)) else (J (3 : Int32) M2)) = J (nI (tsz L - 1)) M2 := by
  have e : ∀ c : Nat, c < 256 → (nI L = nI c ↔ L = c) := fun c hc => nI_inj (by omega) (by omega)
  rw [show (115 : Int32) = nI 115 from rfl, show (114 : Int32) = nI 114 from rfl, show (104 : Int32) = nI 104 from rfl, show (110 : Int32) = nI 110 from rfl]
  unfold tsz
  by_cases h4 : L = 115
  · rw [if_neg (fun q => q ((e 115 (by omega)).mpr h4)), if_neg (by omega), if_neg (by omega), if_neg (by omega), if_pos h4]; rfl
  rw [if_pos (fun q => h4 ((e 115 (by omega)).mp q))]
  by_cases h3 : L = 114
  · rw [if_neg (fun q => q ((e 114 (by omega)).mpr h3)), if_neg (by omega), if_neg (by omega), if_pos h3]; rfl
  rw [if_pos (fun q => h3 ((e 114 (by omega)).mp q))]
  by_cases h1 : L = 104
  · rw [if_pos ((e 104 (by omega)).mpr h1), if_pos h1]; rfl
  rw [if_neg (fun q => h1 ((e 104 (by omega)).mp q)), if_neg h1]
  by_cases h2 : L = 110
  · rw [if_neg (fun q => q ((e 110 (by omega)).mpr h2)), if_pos h2]; rfl
  rw [if_pos (fun q => h2 ((e 110 (by omega)).mp q)), if_neg h2, if_neg h3, if_neg h4]; rfl
def rcZ (M : pm_M) (n : Nat) (b : Nat → Nat) (p c : Nat) (o : Option (Int32 × pm_M)) : Prop := ∃ r a, o = some (r, a) ∧ rfr M a ∧ (∀ i, i < c → a.1 57 i = M.1 57 i) ∧ (∀ k, k < 4 * c → a.1 58 k = M.1 58 k) ∧ ((∃ q, clf b n p = some q ∧ r = 0 ∧ a.1 49 10 = nI q) ∨ (clf b n p = none ∧ r = 1 ∧ a.1 49 10 = nI (p + tsz (b p)) ∧ a.1 49 11 = nI (c + 1) ∧ rrc a b c p))
theorem R_clause_s {M : pm_M} {n p c : Nat} {b : Nat → Nat} (h : tpR M n b) (hp : p ≤ n) (hc : c < 24) (e10 : M.1 49 10 = nI p) (e11 : M.1 49 11 = nI c) : ∃ a, rfr M a ∧ (∀ i, i < c → a.1 57 i = M.1 57 i) ∧ (∀ k, k < 4 * c → a.1 58 k = M.1 58 k) ∧ ((∃ q, clf b n p = some q ∧ sR_clause M = some (0, a) ∧ a.1 49 10 = nI q) ∨ (clf b n p = none ∧ sR_clause M = some (1, a) ∧ a.1 49 10 = nI (p + tsz (b p)) ∧ a.1 49 11 = nI (c + 1) ∧ rrc a b c p)) := by
  obtain ⟨h1, h2, h3⟩ := id h
  have hin24 : pm_in (nI c) 24 := by rw [nI_in_iff (by omega)]; exact hc
  have zero : ∀ q, clf b n p = some q → q = p → sR_clause M = some (0, M) → ∃ a, rfr M a ∧ (∀ i, i < c → a.1 57 i = M.1 57 i) ∧ (∀ k, k < 4 * c → a.1 58 k = M.1 58 k) ∧ ((∃ q, clf b n p = some q ∧ sR_clause M = some (0, a) ∧ a.1 49 10 = nI q) ∨ (clf b n p = none ∧ sR_clause M = some (1, a) ∧ a.1 49 10 = nI (p + tsz (b p)) ∧ a.1 49 11 = nI (c + 1) ∧ rrc a b c p)) := fun q hq hqp e => ⟨M, ⟨fun _ _ _ _ => rfl, rfl, fun _ _ _ => rfl⟩, fun _ _ => rfl, fun _ _ => rfl, Or.inl ⟨q, hq, e, by rw [hqp]; exact e10⟩⟩
  by_cases z : n ≤ p
  · refine zero p (by unfold clf; rw [if_pos z]) rfl ?_
    unfold sR_clause
    rw [q_jn, h2, e10, if_pos ((nI_le_iff (by omega) (by omega)).mpr z)]
    dsimp only
    rw [q_jn, if_pos (by decide), if_pos (by decide), if_neg (by decide), if_pos (by decide)]
    dsimp only
    rw [if_neg (fun q => q rfl)]
  obtain ⟨h4, h5⟩ := h3 p (by omega)
  have hin60 : pm_in (nI p) 60 := by rw [nI_in_iff (by omega)]; omega
  by_cases w : tsz (b p) = 0
  · refine zero p (by unfold clf; rw [if_neg z, if_pos w]) rfl ?_
    unfold sR_clause
    rw [q_jn, h2, e10, if_neg (by rw [nI_le_iff (by omega) (by omega)]; omega), if_pos hin60, nI_cl p (by omega), h5]
    dsimp only
    refine q_jk (fun r => r = some (0, M)) (fun (J : Int32 → pm_M → Option (Int32 × pm_M)) => J (nI (tsz (b p) - 1)) M = some (0, M)) ?_ (fun J hJ => (tsz_pos J M h4).trans hJ)
    rw [w, if_neg (fun q => q rfl)]
  have t5 := tsz_5 (b p)
  have t3 := tsz_2 w
  have hcl : clf b n p = tdg b n p (tsz (b p) - 1) 1 := by unfold clf; rw [if_neg z, if_neg w]
  suffices hZ : rcZ M n b p c (sR_clause M) by
    obtain ⟨r, a, k1, k2, k3, k4, k5⟩ := hZ
    refine ⟨a, k2, k3, k4, ?_⟩
    rcases k5 with ⟨q, y1, y2, y3⟩ | ⟨y1, y2, y3⟩
    · exact Or.inl ⟨q, y1, by rw [k1, y2], y3⟩
    · exact Or.inr ⟨y1, by rw [k1, y2], y3⟩
  unfold sR_clause
  rw [q_jn, h2, e10, if_neg (by rw [nI_le_iff (by omega) (by omega)]; omega), if_pos hin60, nI_cl p (by omega), h5]
  dsimp only
  refine q_jk (rcZ M n b p c) (fun (J : Int32 → pm_M → Option (Int32 × pm_M)) => rcZ M n b p c (J (nI (tsz (b p) - 1)) M)) ?_ (fun J hJ => by rw [tsz_pos J M h4]; exact hJ)
  rw [if_pos (show ¬ nI (tsz (b p) - 1) = 0 by rw [q0, nI_inj (by omega) (by omega)]; omega), e11, if_pos hin24, nI_cl c (by omega), q_lt, q_lt]
  have e10' : (pm_sI M 57 c (nI (b p))).1 49 10 = nI p := by rw [sI_1, if_neg (by decide), e10]
  rw [e10', ← nI_succ]
  refine q_fx (rcZ M n b p c) (fun i a (g : Int32 → pm_M → Option (Int32 × pm_M)) => g (nI i) a) (fun i a => rfr M a ∧ (∀ i, i < c → a.1 57 i = M.1 57 i) ∧ (∀ k, k < 4 * c → a.1 58 k = M.1 58 k) ∧ a.1 49 10 = nI (p + 1 + i) ∧ a.1 49 11 = nI c ∧ a.1 57 c = nI (b p) ∧ (∀ j, j < i → a.1 58 (4 * c + j) = nI (b (p + 1 + j) - 48)) ∧ ∀ j, j < i → tok b n (p + 1 + j)) (tsz (b p) - 1) ?_ ?_ (n := 1000000) (a := pm_sI (pm_sI M 57 c (nI (b p))) 49 10 (nI (p + 1))) (by omega) ?_
  · rintro i a hi ⟨⟨f1, f2, f3⟩, g1, g2, g3, g4, g5, g6, g7⟩ g
    rw [if_neg (by rw [nI_le_iff (by omega) (by omega)]; omega), f3 9 (by decide) (by decide), h2, g3]
    by_cases y : n ≤ p + 1 + i
    · left
      rw [if_pos ((nI_le_iff (by omega) (by omega)).mpr y)]
      refine ⟨0, a, rfl, ⟨f1, f2, f3⟩, g1, g2, Or.inl ⟨p + 1 + i, ?_, rfl, g3⟩⟩
      rw [hcl]
      exact tdg_bad _ _ _ hi g7 (fun q => by have := q.1; omega)
    obtain ⟨y4, y5⟩ := h3 (p + 1 + i) (by omega)
    have hin : pm_in (nI (p + 1 + i)) 60 := by rw [nI_in_iff (by omega)]; omega
    rw [if_neg (by rw [nI_le_iff (by omega) (by omega)]; omega), if_pos hin, nI_cl _ (by omega), f1 56 (by decide) (by decide) (by decide), y5, R_in, q_bd]
    by_cases u : 48 ≤ b (p + 1 + i) ∧ b (p + 1 + i) ≤ 57
    · right
      have hb : b2i ((48 : Int64) ≤ (nI (b (p + 1 + i))).toInt64 ∧ (nI (b (p + 1 + i))).toInt64 ≤ 57) = 1 := b2i_t (by
        rw [nI_toL (by omega), show (48 : Int64) = nL 48 from rfl, show (57 : Int64) = nL 57 from rfl, nL_le_iff (by omega) (by omega), nL_le_iff (by omega) (by omega)]
        exact u)
      have e1 : nI (b (p + 1 + i)) - (48 : Int32) = nI (b (p + 1 + i) - 48) := by rw [show (48 : Int32) = nI 48 from rfl, nI_sub u.1]
      have e2 : ((4 : Int32) * nI c) + nI i = nI (4 * c + i) := by rw [show (4 : Int32) = nI 4 from rfl, nI_mul, qI_add]
      have e3 : (pm_sI a 58 (4 * c + i) (nI (b (p + 1 + i) - 48))).1 49 10 = nI (p + 1 + i) := by rw [sI_1, if_neg (by decide), g3]
      refine ⟨pm_sI (pm_sI a 58 (4 * c + i) (nI (b (p + 1 + i) - 48))) 49 10 (nI (p + 1 + i + 1)), ⟨⟨fun x x1 x2 x3 => by rw [sI_1, if_neg x1, sI_1, if_neg x3, f1 x x1 x2 x3], f2, fun k k1 k2 => ?_⟩, fun j hj => ?_, fun k hk => ?_, ?_, ?_, ?_, fun j hj => ?_, fun j hj => ?_⟩, ?_⟩
      · rw [sI_1, if_pos rfl]
        unfold upd
        rw [if_neg k1, sI_1, if_neg (by decide), f3 k k1 k2]
      · rw [sI_1, if_neg (by decide), sI_1, if_neg (by decide), g1 j hj]
      · rw [sI_1, if_neg (by decide), sI_1, if_pos rfl]
        unfold upd
        rw [if_neg (by omega), g2 k hk]
      · rw [sI_1, if_pos rfl, upd_at]
        rfl
      · rw [sI_1, if_pos rfl]
        unfold upd
        rw [if_neg (by decide), sI_1, if_neg (by decide), g4]
      · rw [sI_1, if_neg (by decide), sI_1, if_neg (by decide), g5]
      · rw [sI_1, if_neg (by decide), sI_1, if_pos rfl]
        unfold upd
        by_cases v : j = i
        · rw [if_pos (by omega), v]
        · rw [if_neg (by omega), g6 j (by omega)]
      · by_cases v : j = i
        · rw [v]; exact ⟨by omega, u⟩
        · exact g7 j (by omega)
      · rw [hb, if_pos (by decide), g3, if_pos hin, g4, e2, if_pos (by rw [nI_in_iff (by omega)]; omega), nI_cl _ (by omega), nI_cl _ (by omega), f1 56 (by decide) (by decide) (by decide), y5, e1, q_lt, q_lt, q_lt, e3, ← nI_succ, ← nI_succ]
    · left
      have hb : b2i ((48 : Int64) ≤ (nI (b (p + 1 + i))).toInt64 ∧ (nI (b (p + 1 + i))).toInt64 ≤ 57) = 0 := b2i_f (by
        rw [nI_toL (by omega), show (48 : Int64) = nL 48 from rfl, show (57 : Int64) = nL 57 from rfl, nL_le_iff (by omega) (by omega), nL_le_iff (by omega) (by omega)]
        exact u)
      rw [hb, if_neg (fun q => q rfl)]
      refine ⟨0, a, rfl, ⟨f1, f2, f3⟩, g1, g2, Or.inl ⟨p + 1 + i, ?_, rfl, g3⟩⟩
      rw [hcl]
      exact tdg_bad _ _ _ hi g7 (fun q => u q.2)
  · rintro a ⟨⟨f1, f2, f3⟩, g1, g2, g3, g4, g5, g6, g7⟩ g
    rw [if_pos (Int32.le_refl _), q_lt, g4, ← nI_succ]
    refine ⟨1, _, rfl, ⟨fun x x1 x2 x3 => by rw [sI_1, if_neg x1, f1 x x1 x2 x3], f2, fun k k1 k2 => ?_⟩, fun j hj => by rw [sI_1, if_neg (by decide), g1 j hj], fun k hk => by rw [sI_1, if_neg (by decide), g2 k hk], Or.inr ⟨by rw [hcl]; exact tdg_ok _ _ g7, rfl, ?_, ?_, ?_, fun i hi => ?_⟩⟩
    · rw [sI_1, if_pos rfl]
      unfold upd
      rw [if_neg k2, f3 k k1 k2]
    · rw [sI_1, if_pos rfl]
      unfold upd
      rw [if_neg (by decide), g3, show p + 1 + (tsz (b p) - 1) = p + tsz (b p) by omega]
    · rw [sI_1, if_pos rfl, upd_at]
    · rw [sI_1, if_neg (by decide), g5]
    · rw [sI_1, if_neg (by decide), g6 i (by omega)]
  · refine ⟨⟨fun x x1 x2 x3 => by rw [sI_1, if_neg x1, sI_1, if_neg x2], rfl, fun k k1 k2 => ?_⟩, fun j hj => ?_, fun k hk => ?_, ?_, ?_, ?_, fun j hj => absurd hj (Nat.not_lt_zero j), fun j hj => absurd hj (Nat.not_lt_zero j)⟩
    · rw [sI_1, if_pos rfl]
      unfold upd
      rw [if_neg k1, sI_1, if_neg (by decide)]
    · rw [sI_1, if_neg (by decide), sI_1, if_pos rfl]
      unfold upd
      rw [if_neg (by omega)]
    · rw [sI_1, if_neg (by decide), sI_1, if_neg (by decide)]
    · rw [sI_1, if_pos rfl, upd_at]
    · rw [sI_1, if_pos rfl]
      unfold upd
      rw [if_neg (by decide), sI_1, if_neg (by decide), e11]
    · rw [sI_1, if_neg (by decide), sI_1, if_pos rfl, upd_at]
