noncomputable def q2i (p : Prop) : Int32 := @ite _ p (Classical.propDecidable p) 1 0
theorem q2i_t {p : Prop} (h : p) : q2i p = 1 := by unfold q2i; rw [if_pos h]
theorem q2i_f {p : Prop} (h : ¬ p) : q2i p = 0 := by unfold q2i; rw [if_neg h]
theorem q2i_01 {p : Prop} : q2i p = 0 ∨ q2i p = 1 := by
  by_cases h : p
  · exact Or.inr (q2i_t h)
  · exact Or.inl (q2i_f h)
theorem q2i_0 {p : Prop} : q2i p = 0 ↔ ¬ p := by
  by_cases h : p
  · rw [q2i_t h]; exact ⟨fun q => absurd q (by decide), fun q => absurd h q⟩
  · rw [q2i_f h]; exact ⟨fun _ => h, fun _ => rfl⟩
theorem nI_m1 {k : Nat} (h : k < 2 ^ 31) : ¬ nI k = -1 := fun q => by
  have h1 := nI_toInt h
  rw [q, show (-1 : Int32).toInt = -1 from by decide] at h1
  omega
theorem qE_lt {d : qD} (hd : qOK d) {c s t : Nat} (hc : c < 2) (h : qE d c s t) : s < qS d ∧ t < qS d := by
  have h1 := (qlds_has d c s (qS d) hd.1 t h.2.1).mp h.2.2
  exact hd.2.2.2.2.2.2.2.2 c s t hc h.1 h.2.1 h1.2
theorem qE_of {d : qD} (hd : qOK d) {c s t : Nat} (hc : c < 2) (hs : s < 5) (ht : t < 5) (h : qw d c s t ≠ 0) : qE d c s t :=
  ⟨hs, ht, (qlds_has d c s (qS d) hd.1 t ht).mpr ⟨(hd.2.2.2.2.2.2.2.2 c s t hc hs ht h).2, h⟩⟩
theorem qE_w {d : qD} (hd : qOK d) {c s t : Nat} (h : qE d c s t) : qw d c s t ≠ 0 := ((qlds_has d c s (qS d) hd.1 t h.2.1).mp h.2.2).2
theorem qRp_S {d : qD} (hd : qOK d) {c s t : Nat} (hc : c < 2) (h : qRp d c s t) : s < qS d ∧ t < qS d := by
  obtain ⟨n, h⟩ := h
  induction n generalizing s with
  | zero => exact qE_lt hd hc h
  | succ n ih =>
    obtain ⟨x, h1, h2⟩ := h
    exact ⟨(qE_lt hd hc h1).1, (ih h2).2⟩
/-- the set that a class reaches -/
def qin (d : qD) (c t : Nat) : Prop := ∃ h, qH d c = h + 1 ∧ (t = h ∨ qRp d c h t)
noncomputable def qrc (d : qD) (c : Nat) : Nat := qset (qin d c)
theorem qrc_lt (d : qD) (c : Nat) : qrc d c < 32 := qset_lt _
/-- it goes round -/
def qgo (d : qD) (c : Nat) : Prop := ∃ h, qH d c = h + 1 ∧ ∀ s, qin d c s → qRp d c s h
theorem qin_S {d : qD} (hd : qOK d) {c t : Nat} (hc : c < 2) (h : qin d c t) : t < qS d := by
  obtain ⟨x, h1, h2⟩ := h
  have h3 := hd.2.2.2.2.1 c hc
  rcases h2 with rfl | h2
  · omega
  · exact (qRp_S hd hc h2).2
theorem qin_E {d : qD} {c s t : Nat} (h : qin d c s) (k : qE d c s t) : qin d c t := by
  obtain ⟨x, h1, h2⟩ := h
  refine ⟨x, h1, Or.inr ?_⟩
  rcases h2 with rfl | h2
  · exact qRp_1 k
  · exact qRp_s h2 k
theorem R_reached {d : qD} {M : pm_M} (hd : qOK d) (h : qR M d) {c : Nat} (hc : c < 2) : sR_reached (nI c) M = some (nI (qrc d c), M) := by
  unfold sR_reached
  have hS := hd.1
  have hh := hd.2.2.2.2.1 c hc
  simp (disch := omega) only [nI_in_iff, hc, if_true, nI_clamp, h.2.2.2.1]
  cases hx : qH d c with
  | zero =>
    have e1 : qrc d c = 0 := by
      refine ((bi_0 _ (qset_lt _)).mpr (fun k hk => ?_))
      cases hz : qhas (qset (qin d c)) k with
      | false => rfl
      | true =>
        obtain ⟨y, h1, -⟩ := (qset_has _ hk).mp hz
        omega
    rw [e1, if_neg (fun q => q rfl)]
    rfl
  | succ y =>
    have hy : y < 5 := by omega
    rw [if_pos (show ¬ hI (y + 1) = -1 from nI_m1 (by omega)), show hI (y + 1) = nI y from rfl, R_from hd h hc hy, q_bd, h.2.2.2.1, hx, show hI (y + 1) = nI y from rfl, bi_sh y hy, bi_or _ (qset_lt _) _ (bi_pow y hy)]
    congr 3
    refine qset_eq (bi_lt_or _ (qset_lt _) _ (bi_pow y hy)) (fun t ht => ?_)
    rw [bi_has_or _ (qset_lt _) _ (bi_pow y hy) t ht, Bool.or_eq_true, qset_has _ ht, bi_has_pow y hy t ht, decide_eq_true_eq]
    constructor
    · rintro (q | rfl)
      · exact ⟨y, hx, Or.inr q⟩
      · exact ⟨y, hx, Or.inl rfl⟩
    · rintro ⟨z, h1, h2⟩
      have : z = y := by omega
      subst this
      rcases h2 with rfl | h2
      · exact Or.inr rfl
      · exact Or.inl h2
theorem bi_get {a k : Nat} (ha : a < 32) (hk : k < 5) : (nI a >>> (nI k &&& 31)) &&& (1 : Int32) = if qhas a k = true then 1 else 0 := by
  rw [bi_has a ha k hk, bi_tb a ha k hk]
  cases qhas a k <;> rfl
theorem R_goesRound {d : qD} {M : pm_M} (hd : qOK d) (h : qR M d) {c : Nat} (hc : c < 2) : sR_goesRound (nI c) M = some (q2i (qgo d c), M) := by
  unfold sR_goesRound
  have hS := hd.1
  have hh := hd.2.2.2.2.1 c hc
  simp (disch := omega) only [nI_in_iff, hc, if_true, nI_clamp, h.2.2.2.1]
  cases hx : qH d c with
  | zero =>
    rw [if_neg (fun q => q rfl), q2i_f (by rintro ⟨y, h1, -⟩; omega)]
  | succ y =>
    have hy : y < 5 := by omega
    rw [if_pos (show ¬ hI (y + 1) = -1 from nI_m1 (by omega)), R_reached hd h hc, q_bd]
    refine q_wh (α := Nat) (fun i (g : Int32 → pm_M → Option (Int32 × pm_M)) => g (nI i) M) (fun i => i ≤ qS d ∧ ∀ s, s < i → qin d c s → qRp d c s y) (fun i => 5 - i) ?_ 1000000 0 ⟨Nat.zero_le _, fun s hs => absurd hs (by omega)⟩ (by show 5 - 0 < 1000000; omega)
    rintro i ⟨hi, hall⟩
    by_cases hiS : i = qS d
    · left
      intro g
      rw [if_pos (by rw [h.1, hiS]; exact Int32.le_refl _), q2i_t ⟨y, hx, fun s hs => hall s (by rw [hiS]; exact qin_S hd hc hs) hs⟩]
    · have hi5 : i < 5 := by omega
      have hlt : i < qS d := by omega
      have hle : ¬ M.1 49 1 ≤ nI i := by rw [h.1, nI_le_iff (by omega) (by omega)]; omega
      by_cases hin : qin d c i
      · have hb : qhas (qrc d c) i = true := (qset_has _ hi5).mpr hin
        by_cases hr : qRp d c i y
        · right
          refine ⟨i + 1, ⟨by omega, fun s hs hq => ?_⟩, by omega, fun g => ?_⟩
          · by_cases he : s = i
            · rw [he]; exact hr
            · exact hall s (by omega) hq
          · have hb2 : qhas (qset (qRp d c i)) y = true := (qset_has _ hy).mpr hr
            rw [if_neg hle, bi_get (qrc_lt d c) hi5, if_pos hb, if_neg (fun q => q rfl), R_from hd h hc hi5, q_bd, h.2.2.2.1, hx, show hI (y + 1) = nI y from rfl, bi_get (qset_lt _) hy, if_pos hb2, if_pos (by decide), q_lt, ← nI_succ]
        · left
          intro g
          have hb2 : ¬ qhas (qset (qRp d c i)) y = true := fun q => hr ((qset_has _ hy).mp q)
          rw [if_neg hle, bi_get (qrc_lt d c) hi5, if_pos hb, if_neg (fun q => q rfl), R_from hd h hc hi5, q_bd, h.2.2.2.1, hx, show hI (y + 1) = nI y from rfl, bi_get (qset_lt _) hy, if_neg hb2, if_neg (fun q => q rfl), q2i_f]
          rintro ⟨z, h1, h2⟩
          have : z = y := by omega
          subst this
          exact hr (h2 i hin)
      · right
        have hb : ¬ qhas (qrc d c) i = true := fun q => hin ((qset_has _ hi5).mp q)
        refine ⟨i + 1, ⟨by omega, fun s hs hq => ?_⟩, by omega, fun g => ?_⟩
        · by_cases he : s = i
          · rw [he] at hq; exact absurd hq hin
          · exact hall s (by omega) hq
        · rw [if_neg hle, bi_get (qrc_lt d c) hi5, if_neg hb, if_pos (by decide), q_lt, ← nI_succ]
/-! the class's rounds over the stations -/
theorem Tours_hasBit {a k : Nat} (ha : a < 32) (hk : k < 5) (M : pm_M) : sTours_hasBit (nI a) (nI k) M = some (if qhas a k = true then 1 else 0, M) := by
  unfold sTours_hasBit
  rw [bi_get ha hk]
  cases qhas a k <;> rfl
def qrd (d : qD) (c X : Nat) : Nat → Nat
  | 0 => X
  | i + 1 => if qhas (qrd d c X i) i = true then qrd d c X i ||| qld d c i else qrd d c X i
def qit (f : Nat → Nat) (x : Nat) : Nat → Nat
  | 0 => x
  | k + 1 => f (qit f x k)
theorem qrd_lt {d : qD} (hd : qOK d) {c X : Nat} (hX : X < 32) : ∀ i, qrd d c X i < 32
  | 0 => hX
  | i + 1 => by
    have ih := qrd_lt hd (c := c) hX i
    unfold qrd
    split
    · exact bi_lt_or _ ih _ (qld_lt hd c i)
    · exact ih
theorem qrd_sub {d : qD} (hd : qOK d) {c X : Nat} (hX : X < 32) {k : Nat} (hk : k < 5) : ∀ i j, i ≤ j → qhas (qrd d c X i) k = true → qhas (qrd d c X j) k = true
  | i, j, hij, h => by
    induction hij with
    | refl => exact h
    | @step j hij ih =>
      show qhas (if qhas (qrd d c X j) j = true then qrd d c X j ||| qld d c j else qrd d c X j) k = true
      split
      · rw [bi_has_or _ (qrd_lt hd hX j) _ (qld_lt hd c j) k hk, ih, Bool.true_or]
      · exact ih
theorem qrd_fix {d : qD} (hd : qOK d) {c X : Nat} (hX : X < 32) (h : qrd d c X (qS d) = X) {u t : Nat} (hu : u < qS d) (ht : t < 5) (hxu : qhas X u = true) (hl : qhas (qld d c u) t = true) : qhas X t = true := by
  have hu5 : u < 5 := by have := hd.1; omega
  have h1 : qhas (qrd d c X u) u = true := qrd_sub hd hX hu5 0 u (Nat.zero_le _) hxu
  have h2 : qhas (qrd d c X (u + 1)) t = true := by
    show qhas (if qhas (qrd d c X u) u = true then qrd d c X u ||| qld d c u else qrd d c X u) t = true
    rw [if_pos h1, bi_has_or _ (qrd_lt hd hX u) _ (qld_lt hd c u) t ht, hl, Bool.or_true]
  rw [← h]
  exact qrd_sub hd hX ht (u + 1) (qS d) hu h2
theorem qrd_id {d : qD} (hd : qOK d) {c X : Nat} (hX : X < 32) (h : ∀ u, u < qS d → qhas X u = true → ∀ t, t < 5 → qhas (qld d c u) t = true → qhas X t = true) : ∀ i, i ≤ qS d → qrd d c X i = X
  | 0, _ => rfl
  | i + 1, hi => by
    have ih := qrd_id hd hX h i (by omega)
    have hi5 : i < 5 := by have := hd.1; omega
    show (if qhas (qrd d c X i) i = true then qrd d c X i ||| qld d c i else qrd d c X i) = X
    rw [ih]
    split
    · rename_i hb
      refine bi_ext _ (bi_lt_or _ hX _ (qld_lt hd c i)) _ hX (fun k hk => ?_)
      rw [bi_has_or _ hX _ (qld_lt hd c i) k hk]
      cases hl : qhas (qld d c i) k with
      | false => rw [Bool.or_false]
      | true => rw [h i (by omega) hb k hk hl]; rfl
    · rfl
theorem qrd_in {d : qD} (hd : qOK d) {c X : Nat} (hX : X < 32) (P : Nat → Prop) (hP : ∀ x y, P x → qE d c x y → P y) (h : ∀ t, t < 5 → qhas X t = true → P t) : ∀ i, i ≤ 5 → ∀ t, t < 5 → qhas (qrd d c X i) t = true → P t
  | 0, _, t, ht, hx => h t ht hx
  | i + 1, hi, t, ht, hx => by
    have ih := qrd_in hd hX P hP h i (by omega)
    have hx2 : qhas (if qhas (qrd d c X i) i = true then qrd d c X i ||| qld d c i else qrd d c X i) t = true := hx
    split at hx2
    · rename_i hb
      rw [bi_has_or _ (qrd_lt hd hX i) _ (qld_lt hd c i) t ht, Bool.or_eq_true] at hx2
      rcases hx2 with q | q
      · exact ih t ht q
      · exact hP i t (ih i (by omega) hb) ⟨by omega, ht, q⟩
    · exact ih t ht hx2
theorem bi_cnt_le : ∀ n, n ≤ 5 → ∀ a, a < 32 → (∀ k, k < 5 → qhas a k = true → k < n) → qcnt a ≤ n := by decide +kernel
theorem bi_cnt_full : ∀ n, n ≤ 5 → ∀ a, a < 32 → (∀ k, k < 5 → qhas a k = true → k < n) → n ≤ qcnt a → ∀ k, k < n → qhas a k = true := by decide +kernel
