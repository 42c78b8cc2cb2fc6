/-! DETERMINANTS: the reference's, by rows -/
def iL (z : Int) : Int64 := Int64.ofInt z
theorem iL_add (a b : Int) : iL a + iL b = iL (a + b) := (Int64.ofInt_add a b).symm
theorem iL_mul (a b : Int) : iL a * iL b = iL (a * b) := (Int64.ofInt_mul a b).symm
theorem iL_sub (a b : Int) : iL a - iL b = iL (a - b) := (Int64.ofInt_sub a b).symm
theorem iL_nat (n : Nat) : iL (n : Int) = nL n := rfl
theorem iL_toInt {z : Int} (h1 : -(2 ^ 63) ≤ z) (h2 : z < 2 ^ 63) : (iL z).toInt = z := Int64.toInt_ofInt_of_le h1 h2
theorem iL_0 {z : Int} (h1 : -(2 ^ 63) ≤ z) (h2 : z < 2 ^ 63) : iL z = 0 ↔ z = 0 := by
  constructor
  · intro h
    have := iL_toInt h1 h2
    rw [h] at this
    exact this.symm
  · rintro rfl; rfl
/-- an entry: all weights less its own, or less the weight -/
def qen (d : qD) (c s t : Nat) : Int := if s = t then (qwt d c s : Int) - (qw d c s s : Int) else -(qw d c s t : Int)
theorem qw_qws {d : qD} {c s t : Nat} : ∀ n, t < n → qw d c s t ≤ qws d c s n
  | 0, h => by omega
  | n + 1, h => by
    show _ ≤ qws d c s n + qw d c s n
    by_cases q : t = n
    · rw [q]; omega
    · have := qw_qws (d := d) (c := c) (s := s) (t := t) n (by omega)
      omega
theorem qw_qwt {d : qD} (hd : qOK d) {c s t : Nat} (hc : c < 2) (hs : s < 5) (ht : t < 5) : qw d c s t ≤ qwt d c s := by
  by_cases h : qw d c s t = 0
  · omega
  · exact qw_qws _ (hd.2.2.2.2.2.2.2.2 c s t hc hs ht h).2
theorem qen_le {d : qD} (hd : qOK d) (c s t : Nat) : -45 ≤ qen d c s t ∧ qen d c s t ≤ 45 := by
  have h1 := qwt_le hd c s
  have h2 := qw_le hd c s s
  have h3 := qw_le hd c s t
  unfold qen
  split <;> omega
theorem neg_w : ∀ b, b < 10 → (-(nI b)).toInt64 = iL (-(b : Int)) := by decide +kernel
theorem R_entry {d : qD} {M : pm_M} (hd : qOK d) (h : qR M d) {c s t : Nat} (hc : c < 2) (hs : s < 5) (ht : t < 5) : sR_entry (nI c) (nI s) (nI t) M = some (iL (qen d c s t), M) := by
  unfold sR_entry qen
  by_cases hst : s = t
  · subst hst
    have h1 : 25 * c + 5 * s + s < 50 := by omega
    have h2 := qw_qwt hd hc hs hs
    have h3 := qwt_le hd c s
    have h4 : (qwt d c s : Int) - (qw d c s s : Int) = ((qwt d c s - qw d c s s : Nat) : Int) := by omega
    simp (disch := omega) only [nI_inj, not_true, if_false, if_true, R_weights hd h hc hs, q_bd, R_routeAt, nI_in_iff, h1, nI_clamp, h.2.2.2.2.2]
    rw [show qW d (25 * c + 5 * s + s) = qw d c s s from rfl, nI_sub h2, nI_toL (by omega), h4, iL_nat]
  · have h1 : 25 * c + 5 * s + t < 50 := by omega
    have h2 := qw_le hd c s t
    simp (disch := omega) only [nI_inj, hst, not_false_iff, if_false, if_true, q_bd, R_routeAt, nI_in_iff, h1, nI_clamp, h.2.2.2.2.2]
    rw [show qW d (25 * c + 5 * s + t) = qw d c s t from rfl, neg_w _ (by omega)]
/-- a row's sum by the columns, with signs in turn -/
def qdl (e : Nat → Nat → Int) (f : Nat → Int) (s cm : Nat) : Nat → Int × Int
  | 0 => (0, 1)
  | t + 1 => if qhas cm t = true then ((qdl e f s cm t).1 + (qdl e f s cm t).2 * e s t * f t, -(qdl e f s cm t).2) else qdl e f s cm t
def qdt (e : Nat → Nat → Int) : Nat → Nat → Nat → Int
  | 0, _, _ => 0
  | k + 1, r, cm => if r = 0 then 1 else (qdl e (fun t => qdt e k (r &&& (31 - 2 ^ qntz r)) (cm &&& (31 - 2 ^ t))) (qntz r) cm 5).1
theorem qdl_sg (e : Nat → Nat → Int) (f : Nat → Int) (s cm : Nat) : ∀ t, (qdl e f s cm t).2 = 1 ∨ (qdl e f s cm t).2 = -1
  | 0 => Or.inl rfl
  | t + 1 => by
    have ih := qdl_sg e f s cm t
    unfold qdl
    split
    · rcases ih with h | h
      · right; show -(qdl e f s cm t).2 = -1; rw [h]
      · left; show -(qdl e f s cm t).2 = 1; rw [h]; rfl
    · exact ih
theorem qdl_S (e : Nat → Nat → Int) (f : Nat → Int) (s cm : Nat) {S : Nat} : ∀ j, (∀ k, k < S + j → qhas cm k = true → k < S) → qdl e f s cm (S + j) = qdl e f s cm S
  | 0, _ => rfl
  | j + 1, h => by
    show (if qhas cm (S + j) = true then _ else _) = _
    rw [if_neg (fun q => by have := h (S + j) (by omega) q; omega)]
    exact qdl_S e f s cm j (fun k hk => h k (by omega))
theorem bi_cnt_sub : ∀ r, r < 32 → r ≠ 0 → qcnt (r &&& (31 - 2 ^ qntz r)) + 1 = qcnt r := by decide +kernel
theorem bi_sub_sub : ∀ a, a < 32 → ∀ b, b < 32 → ∀ k, k < 5 → qhas (a &&& (31 - b)) k = true → qhas a k = true := by decide +kernel
theorem R_determinant {d : qD} {M : pm_M} (hd : qOK d) (h : qR M d) {c : Nat} (hc : c < 2) : ∀ k r cm, r < 32 → cm < 32 → (∀ j, j < 5 → qhas cm j = true → j < qS d) → qcnt r < k → sR_determinant k (nI c) (nI r) (nI cm) M = some (iL (qdt (qen d c) k r cm), M)
  | 0, r, cm, _, _, _, hk => by omega
  | k + 1, r, cm, hr, hcm, hsub, hk => by
    have hS := hd.1
    show (if ¬ nI r = 0 then _ else _) = _
    by_cases h0 : r = 0
    · rw [if_neg (by rw [h0]; exact fun q => q rfl)]
      show _ = some (iL (if r = 0 then 1 else _), M)
      rw [if_pos h0]
      rfl
    · obtain ⟨hs, hsb⟩ := qntz_ok r hr h0
      rw [if_pos (by rw [q0, nI_inj (by omega) (by omega)]; exact h0), J_ntz M hr h0, q_bd]
      have hrr := bi_lt_sub r hr _ (bi_pow _ hs)
      have hcn := bi_cnt_sub r hr h0
      have e9 : qdt (qen d c) (k + 1) r cm = (qdl (qen d c) (fun t => qdt (qen d c) k (r &&& (31 - 2 ^ qntz r)) (cm &&& (31 - 2 ^ t))) (qntz r) cm (qS d)).1 := by
        show (if r = 0 then 1 else _) = _
        rw [if_neg h0]
        have := qdl_S (qen d c) (fun t => qdt (qen d c) k (r &&& (31 - 2 ^ qntz r)) (cm &&& (31 - 2 ^ t))) (qntz r) cm (S := qS d) (5 - qS d) (fun j hj hb => hsub j (by omega) hb)
        rw [show qS d + (5 - qS d) = 5 by omega] at this
        rw [this]
      rw [e9]
      generalize hf : (fun t => qdt (qen d c) k (r &&& (31 - 2 ^ qntz r)) (cm &&& (31 - 2 ^ t))) = f
      have hft : ∀ t, f t = qdt (qen d c) k (r &&& (31 - 2 ^ qntz r)) (cm &&& (31 - 2 ^ t)) := fun t => by rw [← hf]
      refine q_for (fun i (g : Int64 → Int32 → Int32 → pm_M → Option (Int64 × pm_M)) => g (iL (qdl (qen d c) f (qntz r) cm i).1) (Int32.ofInt (qdl (qen d c) f (qntz r) cm i).2) (nI i) M) (N := qS d) ?_ ?_ (by omega)
      · intro i hi g
        have hi5 : i < 5 := by omega
        have hle : ¬ M.1 49 1 ≤ nI i := by rw [h.1, nI_le_iff (by omega) (by omega)]; omega
        have hsg := qdl_sg (qen d c) f (qntz r) cm i
        have hn : qdl (qen d c) f (qntz r) cm (i + 1) = if qhas cm i = true then ((qdl (qen d c) f (qntz r) cm i).1 + (qdl (qen d c) f (qntz r) cm i).2 * qen d c (qntz r) i * f i, -(qdl (qen d c) f (qntz r) cm i).2) else qdl (qen d c) f (qntz r) cm i := rfl
        rw [hn]
        generalize qdl (qen d c) f (qntz r) cm i = z at hsg
        obtain ⟨a, sg⟩ := z
        dsimp only at hsg ⊢
        have hcc := bi_lt_sub cm hcm _ (bi_pow i hi5)
        have hen := qen_le hd c (qntz r) i
        rw [if_neg hle, bi_get hcm hi5]
        by_cases hb : qhas cm i = true
        · have hneg : -(Int32.ofInt sg) = Int32.ofInt (-sg) := by rcases hsg with q | q <;> rw [q] <;> rfl
          have hsl : (Int32.ofInt sg).toInt64 = iL sg := by rcases hsg with q | q <;> rw [q] <;> rfl
          rw [if_pos hb, if_pos hb, if_pos (by decide), R_entry hd h hc hs hi5, q_bd, q_jn]
          by_cases hz : qen d c (qntz r) i = 0
          · have hcz : lg_cmp (iL (qen d c (qntz r) i)) 0 = 0 := by rw [hz]; rfl
            rw [if_pos hcz]
            dsimp only
            rw [q_lt, q_lt, hneg, ← nI_succ, hz, Int.mul_zero, Int.zero_mul, Int.add_zero]
          · have hcz : ¬ lg_cmp (iL (qen d c (qntz r) i)) 0 = 0 := by rw [cmp_eq, iL_0 (by omega) (by omega)]; exact hz
            rw [if_neg hcz, R_entry hd h hc hs hi5, q_bd, bi_sh _ hs, bi_sh i hi5, bi_not r hr _ (bi_pow _ hs), bi_not cm hcm _ (bi_pow i hi5), R_determinant hd h hc k _ _ hrr hcc (fun j hj hq => hsub j hj (bi_sub_sub cm hcm _ (bi_pow i hi5) j hj hq)) (by omega), q_bd, q_lt]
            dsimp only
            rw [q_lt, q_lt, hneg, hsl, iL_mul, iL_mul, iL_add, ← nI_succ, hft i]
        · rw [if_neg hb, if_neg hb, if_neg (fun q => q rfl), q_lt, ← nI_succ]
      · intro g
        rw [if_pos (by rw [h.1]; exact Int32.le_refl _)]
