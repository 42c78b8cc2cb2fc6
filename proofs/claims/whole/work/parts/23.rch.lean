/-! REACH: both sides' sets are those of one path relation -/
def qE (d : qD) (c s t : Nat) : Prop := s < 5 ∧ t < 5 ∧ qhas (qld d c s) t = true
def qpt (d : qD) (c : Nat) : Nat → Nat → Nat → Prop
  | 0, s, t => qE d c s t
  | n + 1, s, t => ∃ m, qE d c s m ∧ qpt d c n m t
/-- one comes from s to t by one route or more -/
def qRp (d : qD) (c s t : Nat) : Prop := ∃ n, qpt d c n s t
theorem qRp_1 {d : qD} {c s t : Nat} (h : qE d c s t) : qRp d c s t := ⟨0, h⟩
theorem qRp_c {d : qD} {c s m t : Nat} (h : qE d c s m) (k : qRp d c m t) : qRp d c s t := by
  obtain ⟨n, k⟩ := k
  exact ⟨n + 1, m, h, k⟩
theorem qpt_snoc {d : qD} {c : Nat} : ∀ n s m t, qpt d c n s m → qE d c m t → qRp d c s t
  | 0, s, m, t, h, k => qRp_c h (qRp_1 k)
  | n + 1, s, m, t, ⟨x, h1, h2⟩, k => qRp_c h1 (qpt_snoc n x m t h2 k)
theorem qRp_s {d : qD} {c s m t : Nat} (h : qRp d c s m) (k : qE d c m t) : qRp d c s t := by
  obtain ⟨n, h⟩ := h
  exact qpt_snoc n s m t h k
theorem qRp_t {d : qD} {c : Nat} {s m t : Nat} (h : qRp d c s m) (k : qRp d c m t) : qRp d c s t := by
  obtain ⟨n, h⟩ := h
  induction n generalizing s with
  | zero => exact qRp_c h k
  | succ n ih =>
    obtain ⟨x, h1, h2⟩ := h
    exact qRp_c h1 (ih h2)
theorem qRp_lt {d : qD} {c s t : Nat} (h : qRp d c s t) : s < 5 ∧ t < 5 := by
  obtain ⟨n, h⟩ := h
  induction n generalizing s with
  | zero => exact ⟨h.1, h.2.1⟩
  | succ n ih =>
    obtain ⟨x, h1, h2⟩ := h
    exact ⟨h1.1, (ih h2).2⟩
/-- what is closed under the routes holds all that one comes to -/
theorem qRp_closed {d : qD} {c s t : Nat} (P : Nat → Prop) (h0 : ∀ x, qE d c s x → P x) (hc : ∀ x y, P x → qE d c x y → P y) (h : qRp d c s t) : P t := by
  obtain ⟨n, h⟩ := h
  have key : ∀ n a, P a → qpt d c n a t → P t := by
    intro n
    induction n with
    | zero => intro a ha h; exact hc a t ha h
    | succ n ih =>
      intro a ha h
      obtain ⟨x, h1, h2⟩ := h
      exact ih x (hc a x ha h1) h2
  cases n with
  | zero => exact h0 t h
  | succ n =>
    obtain ⟨x, h1, h2⟩ := h
    exact key n x (h0 x h1) h2
theorem qRp_closed' {d : qD} {c s t : Nat} (P : Nat → Prop) (h0 : ∀ x, qE d c x t → P x) (hc : ∀ x y, P y → qE d c x y → P x) (h : qRp d c s t) : P s := by
  obtain ⟨n, h⟩ := h
  induction n generalizing s with
  | zero => exact h0 s h
  | succ n ih =>
    obtain ⟨x, h1, h2⟩ := h
    exact hc s x (ih h2) h1
/-- a set within the five as bits -/
noncomputable def qset (p : Nat → Prop) : Nat :=
  (@ite _ (p 0) (Classical.propDecidable _) 1 0) + (@ite _ (p 1) (Classical.propDecidable _) 2 0) + (@ite _ (p 2) (Classical.propDecidable _) 4 0) + (@ite _ (p 3) (Classical.propDecidable _) 8 0) + (@ite _ (p 4) (Classical.propDecidable _) 16 0)
theorem qset_lt (p : Nat → Prop) : qset p < 32 := by
  unfold qset
  by_cases h0 : p 0 <;> by_cases h1 : p 1 <;> by_cases h2 : p 2 <;> by_cases h3 : p 3 <;> by_cases h4 : p 4 <;> simp [h0, h1, h2, h3, h4]
theorem qset_has (p : Nat → Prop) {t : Nat} (ht : t < 5) : qhas (qset p) t = true ↔ p t := by
  unfold qset
  match t, ht with
  | 0, _ => by_cases h0 : p 0 <;> by_cases h1 : p 1 <;> by_cases h2 : p 2 <;> by_cases h3 : p 3 <;> by_cases h4 : p 4 <;> simp [h0, h1, h2, h3, h4, qhas] <;> decide
  | 1, _ => by_cases h0 : p 0 <;> by_cases h1 : p 1 <;> by_cases h2 : p 2 <;> by_cases h3 : p 3 <;> by_cases h4 : p 4 <;> simp [h0, h1, h2, h3, h4, qhas] <;> decide
  | 2, _ => by_cases h0 : p 0 <;> by_cases h1 : p 1 <;> by_cases h2 : p 2 <;> by_cases h3 : p 3 <;> by_cases h4 : p 4 <;> simp [h0, h1, h2, h3, h4, qhas] <;> decide
  | 3, _ => by_cases h0 : p 0 <;> by_cases h1 : p 1 <;> by_cases h2 : p 2 <;> by_cases h3 : p 3 <;> by_cases h4 : p 4 <;> simp [h0, h1, h2, h3, h4, qhas] <;> decide
  | 4, _ => by_cases h0 : p 0 <;> by_cases h1 : p 1 <;> by_cases h2 : p 2 <;> by_cases h3 : p 3 <;> by_cases h4 : p 4 <;> simp [h0, h1, h2, h3, h4, qhas] <;> decide
  | k + 5, h => omega
theorem bi_ext : ∀ a, a < 32 → ∀ b, b < 32 → (∀ k, k < 5 → qhas a k = qhas b k) → a = b := by decide +kernel
theorem qset_eq {p : Nat → Prop} {a : Nat} (ha : a < 32) (h : ∀ t, t < 5 → (qhas a t = true ↔ p t)) : a = qset p := by
  refine bi_ext a ha _ (qset_lt p) (fun k hk => ?_)
  have h1 := h k hk
  have h2 := qset_has p hk
  cases ha1 : qhas a k with
  | true => exact (h2.mpr (h1.mp ha1)).symm
  | false =>
    cases hb1 : qhas (qset p) k with
    | true => rw [h1.mpr (h2.mp hb1)] at ha1; cases ha1
    | false => rfl
theorem bi_has_or : ∀ a, a < 32 → ∀ b, b < 32 → ∀ k, k < 5 → qhas (a ||| b) k = (qhas a k || qhas b k) := by decide +kernel
theorem bi_has_sub : ∀ a, a < 32 → ∀ b, b < 32 → ∀ k, k < 5 → qhas (a &&& (31 - b)) k = (qhas a k && !qhas b k) := by decide +kernel
theorem bi_has_and : ∀ a, a < 32 → ∀ b, b < 32 → ∀ k, k < 5 → qhas (a &&& b) k = (qhas a k && qhas b k) := by decide +kernel
theorem bi_has_pow : ∀ j, j < 5 → ∀ k, k < 5 → qhas (2 ^ j) k = decide (j = k) := by decide +kernel
theorem bi_lt_sub : ∀ a, a < 32 → ∀ b, b < 32 → a &&& (31 - b) < 32 := by decide +kernel
theorem bi_lt_and : ∀ a, a < 32 → ∀ b, b < 32 → a &&& b < 32 := by decide +kernel
theorem bi_0 : ∀ a, a < 32 → (a = 0 ↔ ∀ k, k < 5 → qhas a k = false) := by decide +kernel
/-- how many are in -/
def qcnt (a : Nat) : Nat := (qhas a 0).toNat + (qhas a 1).toNat + (qhas a 2).toNat + (qhas a 3).toNat + (qhas a 4).toNat
theorem bi_cnt : ∀ a, a < 32 → ∀ b, b < 32 → (∀ k, k < 5 → qhas a k = true → qhas b k = true) → a ≠ b → qcnt a < qcnt b := by decide +kernel
theorem qcnt_le (a : Nat) : qcnt a ≤ 5 := by
  unfold qcnt
  have h : ∀ b : Bool, b.toNat ≤ 1 := by decide
  have := h (qhas a 0); have := h (qhas a 1); have := h (qhas a 2); have := h (qhas a 3); have := h (qhas a 4)
  omega
def qntz (m : Nat) : Nat := if m % 2 = 1 then 0 else if m % 4 = 2 then 1 else if m % 8 = 4 then 2 else if m % 16 = 8 then 3 else 4
theorem qntz_ok : ∀ m, m < 32 → m ≠ 0 → qntz m < 5 ∧ qhas m (qntz m) = true := by decide +kernel
set_option maxRecDepth 100000 in
theorem J_ntz (M : pm_M) {m : Nat} (h : m < 32) (h0 : m ≠ 0) : sJInt_numberOfTrailingZeros (nI m) M = some (nI (qntz m), M) := by
  match m, h, h0 with
  | 0, _, h0 => exact absurd rfl h0
  | 1, _, _ => rfl
  | 2, _, _ => rfl
  | 3, _, _ => rfl
  | 4, _, _ => rfl
  | 5, _, _ => rfl
  | 6, _, _ => rfl
  | 7, _, _ => rfl
  | 8, _, _ => rfl
  | 9, _, _ => rfl
  | 10, _, _ => rfl
  | 11, _, _ => rfl
  | 12, _, _ => rfl
  | 13, _, _ => rfl
  | 14, _, _ => rfl
  | 15, _, _ => rfl
  | 16, _, _ => rfl
  | 17, _, _ => rfl
  | 18, _, _ => rfl
  | 19, _, _ => rfl
  | 20, _, _ => rfl
  | 21, _, _ => rfl
  | 22, _, _ => rfl
  | 23, _, _ => rfl
  | 24, _, _ => rfl
  | 25, _, _ => rfl
  | 26, _, _ => rfl
  | 27, _, _ => rfl
  | 28, _, _ => rfl
  | 29, _, _ => rfl
  | 30, _, _ => rfl
  | 31, _, _ => rfl
  | k + 32, h, _ => omega
/-- a loop by a measure that falls -/
theorem q_wh {α β ρ : Type} {bot : β} {F : β → β} (ap : α → β → Option ρ) (I : α → Prop) (μ : α → Nat) {e : Option ρ} (h : ∀ a, I a → (∀ g, ap a (F g) = e) ∨ ∃ a', I a' ∧ μ a' < μ a ∧ ∀ g, ap a (F g) = ap a' g) : ∀ (n : Nat) (a : α), I a → μ a < n → ap a (pm_loop bot F n) = e
  | 0, a, _, hn => by omega
  | n + 1, a, ha, hn => by
    rw [q_lp]
    rcases h a ha with h1 | ⟨a', h1, h2, h3⟩
    · exact h1 _
    · rw [h3]
      exact q_wh ap I μ h n a' h1 (by omega)
theorem qlds_has (d : qD) (c s : Nat) : ∀ i, i ≤ 5 → ∀ t, t < 5 → (qhas (qlds d c s i) t = true ↔ t < i ∧ qw d c s t ≠ 0)
  | 0, _, t, ht => by
    show qhas 0 t = true ↔ _
    have : qhas 0 t = false := by unfold qhas; exact Nat.zero_testBit t
    rw [this]
    exact ⟨fun h => (by cases h), fun h => absurd h.1 (by omega)⟩
  | i + 1, hi, t, ht => by
    have ih := qlds_has d c s i (by omega) t ht
    show qhas (if qw d c s i = 0 then qlds d c s i else qlds d c s i ||| 2 ^ i) t = true ↔ _
    by_cases h0 : qw d c s i = 0
    · rw [if_pos h0, ih]
      constructor
      · exact fun h => ⟨by omega, h.2⟩
      · intro h
        have : t ≠ i := fun q => h.2 (by rw [q]; exact h0)
        exact ⟨by omega, h.2⟩
    · rw [if_neg h0, bi_has_or _ (qlds_lt d c s i (by omega)) _ (bi_pow i (by omega)) t ht, bi_has_pow i (by omega) t ht, Bool.or_eq_true, ih, decide_eq_true_eq]
      constructor
      · rintro (h | rfl)
        · exact ⟨by omega, h.2⟩
        · exact ⟨by omega, h0⟩
      · intro h
        by_cases q : i = t
        · exact Or.inr q
        · exact Or.inl ⟨by omega, h.2⟩
theorem qld_lt {d : qD} (hd : qOK d) (c s : Nat) : qld d c s < 32 := qlds_lt d c s _ hd.1
theorem R_from {d : qD} {M : pm_M} (hd : qOK d) (h : qR M d) {c s : Nat} (hc : c < 2) (hs : s < 5) : sR_from (nI c) (nI s) M = some (nI (qset (qRp d c s)), M) := by
  unfold sR_from
  have hS := hd.1
  rw [q_lt, bi_sh s hs]
  refine q_wh (α := Nat × Nat × Nat) (fun a (g : Int32 → Int32 → Int32 → pm_M → Option (Int32 × pm_M)) => g (nI a.1) (nI a.2.1) (nI a.2.2) M)
    (fun a => (a.1 < 32 ∧ a.2.1 < 32 ∧ a.2.2 < 32) ∧ (∀ t, t < 5 → qhas a.1 t = true → qRp d c s t) ∧ (∀ u, u < 5 → qhas a.2.1 u = true → ∀ t, t < 5 → qhas (qld d c u) t = true → qhas a.1 t = true)
      ∧ (∀ u, u < 5 → qhas a.2.2 u = true → (u = s ∨ qRp d c s u) ∧ qhas a.2.1 u = false) ∧ (∀ u, u < 5 → qhas a.1 u = true → qhas a.2.1 u = true ∨ qhas a.2.2 u = true) ∧ (qhas a.2.1 s = true ∨ ∀ u, u < 5 → qhas a.2.2 u = true → u = s) ∧ (a.2.2 = 0 → qhas a.2.1 s = true))
    (fun a => 5 - qcnt a.2.1) ?_ 1000000 (0, 0, 2 ^ s) ?_ (by show 5 - qcnt 0 < 1000000; omega)
  · rintro ⟨X, D, Nx⟩ ⟨⟨hX, hD, hN⟩, ia, ib, ic, id, ie, ig⟩
    dsimp only at hX hD hN ia ib ic id ie ig ⊢
    by_cases h0 : Nx = 0
    · left
      intro g
      have e0 : nI Nx = 0 := by rw [h0]; rfl
      rw [if_pos e0]
      have hz := (bi_0 Nx hN).mp h0
      have hXD : ∀ u, u < 5 → qhas X u = true → qhas D u = true := fun u hu hx => by
        rcases id u hu hx with q | q
        · exact q
        · rw [hz u hu] at q; cases q
      have : X = qset (qRp d c s) := by
        refine qset_eq hX (fun t ht => ⟨ia t ht, fun hr => ?_⟩)
        exact (qRp_closed (fun x => x < 5 ∧ qhas X x = true) (fun x hx => ⟨hx.2.1, ib s hs (ig h0) x hx.2.1 hx.2.2⟩) (fun x y hx hy => ⟨hy.2.1, ib x hx.1 (hXD x hx.1 hx.2) y hy.2.1 hy.2.2⟩) hr).2
      rw [this]
    · right
      obtain ⟨hu, hub⟩ := qntz_ok Nx hN h0
      generalize hue : qntz Nx = u at hu hub
      have hl := qld_lt hd c u
      have hp := bi_pow u hu
      have hX' := bi_lt_or X hX _ hl
      have hD' := bi_lt_or D hD _ hp
      obtain ⟨hru, hnd⟩ := ic u hu hub
      have hsD : qhas (D ||| 2 ^ u) s = true := by
        rw [bi_has_or D hD _ hp s hs, Bool.or_eq_true, bi_has_pow u hu s hs, decide_eq_true_eq]
        rcases ie with q | q
        · exact Or.inl q
        · exact Or.inr (q u hu hub)
      refine ⟨(X ||| qld d c u, D ||| 2 ^ u, (X ||| qld d c u) &&& (31 - (D ||| 2 ^ u))), ⟨⟨hX', hD', bi_lt_sub _ hX' _ hD'⟩, ?_, ?_, ?_, ?_, Or.inl hsD, fun _ => hsD⟩, ?_, ?_⟩
      · intro t ht hx
        rw [bi_has_or X hX _ hl t ht, Bool.or_eq_true] at hx
        rcases hx with q | q
        · exact ia t ht q
        · have hE : qE d c u t := ⟨hu, ht, q⟩
          rcases hru with rfl | hru
          · exact qRp_1 hE
          · exact qRp_s hru hE
      · intro v hv hvD t ht hlt
        show qhas (X ||| qld d c u) t = true
        rw [bi_has_or X hX _ hl t ht, Bool.or_eq_true]
        rw [bi_has_or D hD _ hp v hv, Bool.or_eq_true, bi_has_pow u hu v hv, decide_eq_true_eq] at hvD
        rcases hvD with q | rfl
        · exact Or.inl (ib v hv q t ht hlt)
        · exact Or.inr hlt
      · intro v hv hvN
        rw [bi_has_sub _ hX' _ hD' v hv, Bool.and_eq_true, Bool.not_eq_true'] at hvN
        refine ⟨Or.inr ?_, hvN.2⟩
        have hx := hvN.1
        rw [bi_has_or X hX _ hl v hv, Bool.or_eq_true] at hx
        rcases hx with q | q
        · exact ia v hv q
        · have hE : qE d c u v := ⟨hu, hv, q⟩
          rcases hru with rfl | hru
          · exact qRp_1 hE
          · exact qRp_s hru hE
      · intro v hv hvX
        show qhas (D ||| 2 ^ u) v = true ∨ qhas ((X ||| qld d c u) &&& (31 - (D ||| 2 ^ u))) v = true
        rw [bi_has_sub _ hX' _ hD' v hv, hvX]
        cases qhas (D ||| 2 ^ u) v <;> simp
      · have h1 : qcnt D < qcnt (D ||| 2 ^ u) := by
          refine bi_cnt D hD _ hD' (fun k hk hkD => by rw [bi_has_or D hD _ hp k hk, hkD, Bool.true_or]) (fun q => ?_)
          rw [q, bi_has_or D hD _ hp u hu, bi_has_pow u hu u hu] at hnd
          simp at hnd
        have h2 := qcnt_le (D ||| 2 ^ u)
        show 5 - qcnt (D ||| 2 ^ u) < 5 - qcnt D
        omega
      · intro g
        have e0 : ¬ nI Nx = 0 := by rw [q0, nI_inj (by omega) (by omega)]; exact h0
        rw [if_neg e0, J_ntz M hN h0, q_bd, hue, q_lt, bi_sh u hu, bi_or D hD _ hp]
        have hx0 : nI X = nI (X ||| qlds d c u 0) := by show nI X = nI (X ||| 0); rw [Nat.or_zero]
        rw [hx0]
        refine q_for (fun i (g9 : Int32 → Int32 → pm_M → Option (Int32 × pm_M)) => g9 (nI (X ||| qlds d c u i)) (nI i) M) (N := qS d) ?_ ?_ (by omega)
        · intro i hi g9
          have h2 : 25 * c + 5 * u + i < 50 := by omega
          have h3 : ¬ qS d ≤ i := by omega
          have hw := qw_le hd c u i
          unfold qw at hw
          have hl2 := qlds_lt d c u i (by omega)
          have hp2 := bi_pow i (by omega)
          by_cases hz : qW d (25 * c + 5 * u + i) = 0
          · have hz2 : qW d (25 * c + 5 * u + i) ≤ 0 := by omega
            have hz3 : qlds d c u (i + 1) = qlds d c u i := by show (if qw d c u i = 0 then _ else _) = _; rw [if_pos (show qw d c u i = 0 from hz)]
            simp (disch := omega) only [h.1, nI_le_iff, h3, if_false, R_routeAt, q_bd, q_lt, nI_in_iff, h2, if_true, nI_clamp, h.2.2.2.2.2, q0, hz2, hz3]
            rw [← nI_succ]
          · have hz2 : ¬ qW d (25 * c + 5 * u + i) ≤ 0 := by omega
            have hz3 : qlds d c u (i + 1) = qlds d c u i ||| 2 ^ i := by show (if qw d c u i = 0 then _ else _) = _; rw [if_neg (show ¬ qw d c u i = 0 from hz)]
            have e1 := bi_sh i (by omega)
            have e2 := bi_or _ (bi_lt_or X hX _ hl2) _ hp2
            simp (disch := omega) only [h.1, nI_le_iff, h3, if_false, R_routeAt, q_bd, q_lt, nI_in_iff, h2, if_true, nI_clamp, h.2.2.2.2.2, q0, hz2, hz3, e1, e2]
            rw [← nI_succ, Nat.or_assoc]
        · intro g9
          simp (disch := omega) only [h.1, nI_le_iff, Nat.le_refl, if_true, q_lt]
          rw [show qlds d c u (qS d) = qld d c u from rfl, bi_not _ hX' _ hD']
  · refine ⟨⟨by show 0 < 32; omega, by show 0 < 32; omega, bi_pow s hs⟩, ?_, ?_, ?_, ?_, Or.inr ?_, ?_⟩
    · intro t ht hx
      rw [show qhas (0, 0, 2 ^ s).1 t = false from Nat.zero_testBit t] at hx; cases hx
    · intro t ht hx
      rw [show qhas (0, 0, 2 ^ s).2.1 t = false from Nat.zero_testBit t] at hx; cases hx
    · intro u hu hx
      have hx2 : qhas (2 ^ s) u = true := hx
      rw [bi_has_pow s hs u hu, decide_eq_true_eq] at hx2
      exact ⟨Or.inl hx2.symm, Nat.zero_testBit u⟩
    · intro t ht hx
      rw [show qhas (0, 0, 2 ^ s).1 t = false from Nat.zero_testBit t] at hx; cases hx
    · intro u hu hx
      have hx2 : qhas (2 ^ s) u = true := hx
      rw [bi_has_pow s hs u hu, decide_eq_true_eq] at hx2
      exact hx2.symm
    · intro q
      exact absurd q (by show ¬ 2 ^ s = 0; exact Nat.pos_iff_ne_zero.mp (Nat.two_pow_pos s))
