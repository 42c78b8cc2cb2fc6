/-! THE TAPE, READ: the reference reads it all -/
def tst (b : Nat → Nat) (n : Nat) : Nat → Nat → List Nat
  | 0, _ => []
  | f + 1, p => if n ≤ p + tsz (b p) then [p] else p :: tst b n f (p + tsz (b p) + 1)
def trB : (Int32 → pm_M → Option (Int32 × pm_M)) → Int32 → pm_M → Option (Int32 × pm_M) := (fun (g5 : Int32 → pm_M → Option (Int32 × pm_M)) x7 M6 => pm_jn (fun (M9 : pm_M) => pm_lt (pm_sI M9 49 9 (0 : Int32)) fun M10 => if ¬ x7 = 0 then (pm_loop (fun _ _ _ => none) (fun (g11 : Int32 → Int32 → pm_M → Option (Int32 × pm_M)) x13 x14 M12 => if (M12.1 49 11) ≤ x14 then (some (x13, M12)) else (pm_bd (sR_isDone x14 M12) fun v16 M15 => if v16 = 0 then (pm_lt ((x14 + (1 : Int32))) fun x17 => g11 x13 x17 M15) else (pm_lt ((x13 + (1 : Int32))) fun x18 => pm_lt ((x14 + (1 : Int32))) fun x19 => g11 x18 x19 M15))) 1000000 (0 : Int32) (0 : Int32) M10) else (some (((-100 : Int32) - (M10.1 49 10)), M10))) fun (j8 : pm_M → Option (Int32 × pm_M)) => if x7 = 0 then (j8 M6) else (if (M6.1 49 9) ≤ (M6.1 49 10) then (j8 M6) else (if pm_in (M6.1 49 10) 60 then (pm_jn (fun (q22 : Int32) (M21 : pm_M) => if q22 = 0 then (g5 q22 M21) else (pm_lt (pm_sI M21 49 10 (((M21.1 49 10) + (1 : Int32)))) fun M23 => pm_bd (sR_clause M23) fun v25 M24 => g5 v25 M24)) fun (j20 : Int32 → pm_M → Option (Int32 × pm_M)) => if ¬ (M6.1 56 (M6.1 49 10).toNatClampNeg) = (59 : Int32) then (j20 (0 : Int32) M6) else (j20 (1 : Int32) M6)) else none)))
def trE (x7 : Int32) (M9 : pm_M) : Option (Int32 × pm_M) := pm_lt (pm_sI M9 49 9 (0 : Int32)) fun M10 => if ¬ x7 = 0 then (pm_loop (fun _ _ _ => none) (fun (g11 : Int32 → Int32 → pm_M → Option (Int32 × pm_M)) x13 x14 M12 => if (M12.1 49 11) ≤ x14 then (some (x13, M12)) else (pm_bd (sR_isDone x14 M12) fun v16 M15 => if v16 = 0 then (pm_lt ((x14 + (1 : Int32))) fun x17 => g11 x13 x17 M15) else (pm_lt ((x13 + (1 : Int32))) fun x18 => pm_lt ((x14 + (1 : Int32))) fun x19 => g11 x18 x19 M15))) 1000000 (0 : Int32) (0 : Int32) M10) else (some (((-100 : Int32) - (M10.1 49 10)), M10))
theorem tr_loop (M : pm_M) : sR_text M = pm_bd (sR_clause (pm_sI (pm_sI M 49 10 0) 49 11 0)) fun v4 M3 => pm_loop (fun _ _ => none) trB 1000000 v4 M3 := rfl
theorem trB_0 (g : Int32 → pm_M → Option (Int32 × pm_M)) (M : pm_M) : trB g 0 M = trE 0 M := by
  unfold trB
  rw [q_jn, if_pos rfl]
  rfl
theorem trB_end {M : pm_M} {n p : Nat} {b : Nat → Nat} (h : tpR M n b) (hp : n ≤ p) (hp2 : p ≤ 100) (e10 : M.1 49 10 = nI p) (g : Int32 → pm_M → Option (Int32 × pm_M)) : trB g 1 M = trE 1 M := by
  obtain ⟨h1, h2, h3⟩ := h
  unfold trB
  rw [q_jn, if_neg (by decide), h2, e10, if_pos ((nI_le_iff (by omega) (by omega)).mpr hp)]
  rfl
theorem trB_in {M : pm_M} {n p : Nat} {b : Nat → Nat} (h : tpR M n b) (hp : p < n) (e10 : M.1 49 10 = nI p) (g : Int32 → pm_M → Option (Int32 × pm_M)) : trB g 1 M = if b p = 59 then pm_bd (sR_clause (pm_sI M 49 10 (nI (p + 1)))) fun v25 M24 => g v25 M24 else g 0 M := by
  obtain ⟨h1, h2, h3⟩ := h
  obtain ⟨h4, h5⟩ := h3 p hp
  unfold trB
  rw [q_jn, if_neg (by decide), h2, e10, if_neg (by rw [nI_le_iff (by omega) (by omega)]; omega), if_pos (by rw [nI_in_iff (by omega)]; omega), nI_cl p (by omega), h5, q_jn, show (59 : Int32) = nI 59 from rfl]
  by_cases z : b p = 59
  · rw [if_neg (fun q => q (by rw [z])), if_pos z]
    dsimp only
    rw [if_neg (by decide), q_lt, e10, ← nI_succ]
  · rw [if_pos (fun q => z ((nI_inj (by omega) (by omega)).mp q)), if_neg z]
    dsimp only
    rw [if_pos rfl]
theorem tpR_k {M a : pm_M} {n : Nat} {b : Nat → Nat} (h : tpR M n b) (f : rfr M a) : tpR a n b := ⟨h.1, by rw [f.2.2 9 (by decide) (by decide)]; exact h.2.1, fun k hk => by rw [f.1 56 (by decide) (by decide) (by decide)]; exact h.2.2 k hk⟩
theorem rfr_t {M a a' : pm_M} (h : rfr M a) (h' : rfr a a') : rfr M a' := ⟨fun b b1 b2 b3 => by rw [h'.1 b b1 b2 b3, h.1 b b1 b2 b3], by rw [h'.2.1, h.2.1], fun k k1 k2 => by rw [h'.2.2 k k1 k2, h.2.2 k k1 k2]⟩
theorem tr_all {n : Nat} {b : Nat → Nat} : ∀ (f p c k : Nat) (M : pm_M), tpR M n b → M.1 49 10 = nI p → M.1 49 11 = nI c → p ≤ n → n - p < f → n - p + 10 < k → 4 * c ≤ p → ∃ a, rfr M a ∧ (∀ i, i < c → a.1 57 i = M.1 57 i) ∧ (∀ k, k < 4 * c → a.1 58 k = M.1 58 k) ∧ ((∃ q, q ≤ 60 ∧ tfa b n f p = some q ∧ (pm_bd (sR_clause M) fun v4 M3 => pm_loop (fun _ _ => none) trB k v4 M3) = trE 0 a ∧ a.1 49 10 = nI q) ∨ (tfa b n f p = none ∧ (pm_bd (sR_clause M) fun v4 M3 => pm_loop (fun _ _ => none) trB k v4 M3) = trE 1 a ∧ a.1 49 11 = nI (c + (tst b n f p).length) ∧ c + (tst b n f p).length ≤ 16 ∧ ∀ i, i < (tst b n f p).length → (tst b n f p).getD i 0 + tsz (b ((tst b n f p).getD i 0)) ≤ n ∧ tsz (b ((tst b n f p).getD i 0)) ≠ 0 ∧ rrc a b (c + i) ((tst b n f p).getD i 0)))
  | 0, p, c, k, M, _, _, _, _, hf, _, _ => by omega
  | f + 1, p, c, 0, M, _, _, _, _, _, hk, _ => by omega
  | f + 1, p, c, 1, M, _, _, _, _, _, hk, _ => by omega
  | f + 1, p, c, k + 2, M, h, e10, e11, hp, hf, hk, hc => by
    have h60 := h.1
    obtain ⟨a1, g1, g2, g3, g4⟩ := R_clause_s h hp (show c < 24 by omega) e10 e11
    have h1 := tpR_k h g1
    rcases g4 with ⟨q, y1, y2, y3⟩ | ⟨y1, y2, y3, y4, y5⟩
    · refine ⟨a1, g1, g2, g3, Or.inl ⟨q, ?_, by rw [tfa_s, y1], ?_, y3⟩⟩
      · unfold clf at y1
        split at y1
        · cases y1; omega
        · split at y1
          · cases y1; omega
          · have : ∀ m i, p + i ≤ n → tdg b n p m i = some q → q ≤ n := by
              intro m
              induction m with
              | zero => intro i _ e; cases e
              | succ m ih =>
                intro i hi e
                unfold tdg at e
                split at e
                · exact ih (i + 1) (by omega) e
                · cases e; exact hi
            have := this _ 1 (by omega) y1
            omega
      · rw [y2, q_bd, q_lp, trB_0]
    · have hle : p + tsz (b p) ≤ n ∧ tsz (b p) ≠ 0 := by
        unfold clf at y1
        split at y1
        · cases y1
        · split at y1
          · cases y1
          · rename_i w
            have := tdg_n _ _ (by omega) y1
            have := tsz_2 w
            exact ⟨by omega, w⟩
      have t3 := tsz_2 hle.2
      have t5 := tsz_5 (b p)
      by_cases z : n ≤ p + tsz (b p)
      · have et : tst b n (f + 1) p = [p] := by unfold tst; rw [if_pos z]
        refine ⟨a1, g1, g2, g3, Or.inr ⟨by rw [tfa_s, y1]; dsimp only; rw [if_pos z], by rw [y2, q_bd, q_lp, trB_end h1 z (by omega) y3], ?_⟩⟩
        rw [et]
        refine ⟨y4, by show c + 1 ≤ 16; omega, fun i hi => ?_⟩
        have hi0 : i = 0 := by have : i < 1 := hi; omega
        rw [hi0]
        exact ⟨hle.1, hle.2, y5⟩
      have hb := trB_in h1 (show p + tsz (b p) < n by omega) y3 (pm_loop (fun _ _ => none) trB (k + 1))
      by_cases w : b (p + tsz (b p)) = 59
      · rw [if_pos w] at hb
        have et : tst b n (f + 1) p = p :: tst b n f (p + tsz (b p) + 1) := by show (if _ then _ else _) = _; rw [if_neg z]
        have f2 : rfr a1 (pm_sI a1 49 10 (nI (p + tsz (b p) + 1))) := ⟨fun x x1 x2 x3 => by rw [sI_1, if_neg x1], rfl, fun j j1 j2 => by rw [sI_1, if_pos rfl]; unfold upd; rw [if_neg j1]⟩
        obtain ⟨a, k1, k2, k3, k4⟩ := tr_all f (p + tsz (b p) + 1) (c + 1) (k + 1) (pm_sI a1 49 10 (nI (p + tsz (b p) + 1))) (tpR_k h1 f2) (by rw [sI_1, if_pos rfl, upd_at]) (by rw [sI_1, if_pos rfl]; unfold upd; rw [if_neg (by decide), y4]) (by omega) (by omega) (by omega) (by omega)
        have o : ∀ x, x ≠ 49 → (pm_sI a1 49 10 (nI (p + tsz (b p) + 1))).1 x = a1.1 x := fun x hx => by rw [sI_1, if_neg hx]
        have ex : (pm_bd (sR_clause M) fun v4 M3 => pm_loop (fun _ _ => none) trB (k + 2) v4 M3) = (pm_bd (sR_clause (pm_sI a1 49 10 (nI (p + tsz (b p) + 1)))) fun v4 M3 => pm_loop (fun _ _ => none) trB (k + 1) v4 M3) := by
          rw [y2, q_bd, q_lp, hb]
        have ef : tfa b n (f + 1) p = tfa b n f (p + tsz (b p) + 1) := by rw [tfa_s, y1]; dsimp only; rw [if_neg z, if_pos w]
        refine ⟨a, rfr_t g1 (rfr_t f2 k1), fun i hi => by rw [k2 i (by omega), o 57 (by decide), g2 i hi], fun j hj => by rw [k3 j (by omega), o 58 (by decide), g3 j hj], ?_⟩
        rcases k4 with ⟨q, q60, q1, q2, q3⟩ | ⟨q1, q2, q3, q4, q5⟩
        · exact Or.inl ⟨q, q60, by rw [ef]; exact q1, by rw [ex]; exact q2, q3⟩
        · refine Or.inr ⟨by rw [ef]; exact q1, by rw [ex]; exact q2, ?_⟩
          rw [et]
          have el : (p :: tst b n f (p + tsz (b p) + 1)).length = (tst b n f (p + tsz (b p) + 1)).length + 1 := rfl
          refine ⟨by rw [q3, el]; congr 1; omega, by rw [el]; omega, fun i hi => ?_⟩
          cases i with
          | zero =>
            refine ⟨hle.1, hle.2, ?_, fun j hj => ?_⟩
            · show a.1 57 c = _
              rw [k2 c (by omega), o 57 (by decide)]
              exact y5.1
            · show a.1 58 (4 * c + j) = _
              have hj' : j + 1 < tsz (b p) := hj
              rw [k3 _ (by omega), o 58 (by decide)]
              exact y5.2 j hj
          | succ i =>
            have hi' : i < (tst b n f (p + tsz (b p) + 1)).length := by rw [el] at hi; omega
            have := q5 i hi'
            rw [show c + 1 + i = c + (i + 1) by omega] at this
            exact this
      · rw [if_neg w] at hb
        refine ⟨a1, g1, g2, g3, Or.inl ⟨p + tsz (b p), by omega, ?_, ?_, y3⟩⟩
        · rw [tfa_s, y1]
          dsimp only
          rw [if_neg z, if_neg w]
        · rw [y2, q_bd, q_lp, hb, q_lp, trB_0]
