theorem qit_lt {f : Nat → Nat} {x : Nat} (hx : x < 32) (hf : ∀ y, y < 32 → f y < 32) : ∀ k, qit f x k < 32
  | 0 => hx
  | k + 1 => hf _ (qit_lt hx hf k)
/-- rounds that only add come to rest, if each that adds adds one -/
theorem qit_rest {f : Nat → Nat} {x n : Nat} (hx : x < 32) (hn : n ≤ 5) (hf : ∀ y, y < 32 → f y < 32) (hsub : ∀ y, y < 32 → ∀ k, k < 5 → qhas y k = true → qhas (f y) k = true) : ∀ k, f (qit f x k) = qit f x k ∨ qcnt x + k ≤ qcnt (qit f x k)
  | 0 => Or.inr (Nat.le_refl _)
  | k + 1 => by
    have hk := qit_lt hx hf k
    rcases qit_rest hx hn hf hsub k with h | h
    · left
      show f (f (qit f x k)) = f (qit f x k)
      rw [h, h]
    · by_cases he : qit f x k = f (qit f x k)
      · left
        show f (f (qit f x k)) = f (qit f x k)
        rw [← he, ← he]
      · right
        have := bi_cnt _ hk _ (hf _ hk) (hsub _ hk) he
        show qcnt x + (k + 1) ≤ qcnt (f (qit f x k))
        omega
theorem bi_cnt_pow : ∀ j, j < 5 → qcnt (2 ^ j) = 1 := by decide +kernel
theorem qrch_ok {d : qD} (hd : qOK d) {c y : Nat} (hc : c < 2) (hy : qH d c = y + 1) : qit (fun X => qrd d c X (qS d)) (2 ^ y) (qS d) = qrc d c := by
  have hS := hd.1
  have hyS : y < qS d := by have := hd.2.2.2.2.1 c hc; omega
  have hf : ∀ Y, Y < 32 → qrd d c Y (qS d) < 32 := fun Y hY => qrd_lt hd hY _
  have hsub : ∀ Y, Y < 32 → ∀ k, k < 5 → qhas Y k = true → qhas (qrd d c Y (qS d)) k = true := fun Y hY k hk h => qrd_sub hd hY hk 0 _ (Nat.zero_le _) h
  have hx := bi_pow y (by omega)
  have hin : ∀ k, ∀ t, t < 5 → qhas (qit (fun X => qrd d c X (qS d)) (2 ^ y) k) t = true → qin d c t := by
    intro k
    induction k with
    | zero =>
      intro t ht h
      have h2 : qhas (2 ^ y) t = true := h
      rw [bi_has_pow y (by omega) t ht, decide_eq_true_eq] at h2
      exact ⟨y, hy, Or.inl h2.symm⟩
    | succ k ih => exact qrd_in hd (qit_lt hx hf k) (qin d c) (fun a b ha hb => qin_E ha hb) ih (qS d) hS
  have hhas : ∀ k, qhas (qit (fun X => qrd d c X (qS d)) (2 ^ y) k) y = true := by
    intro k
    induction k with
    | zero => show qhas (2 ^ y) y = true; rw [bi_has_pow y (by omega) y (by omega)]; simp
    | succ k ih => exact hsub _ (qit_lt hx hf k) y (by omega) ih
  have hZ := qit_lt hx hf (qS d)
  have hfix : qrd d c (qit (fun X => qrd d c X (qS d)) (2 ^ y) (qS d)) (qS d) = qit (fun X => qrd d c X (qS d)) (2 ^ y) (qS d) := by
    rcases qit_rest hx hS hf hsub (qS d) with h | h
    · exact h
    · exfalso
      have h1 := bi_cnt_le (qS d) hS _ hZ (fun k hk hb => qin_S hd hc (hin (qS d) k hk hb))
      rw [bi_cnt_pow y (by omega)] at h
      omega
  refine qset_eq hZ (fun t ht => ⟨hin (qS d) t ht, ?_⟩)
  rintro ⟨z, h1, h2⟩
  have : z = y := by omega
  subst this
  rcases h2 with rfl | h2
  · exact hhas (qS d)
  · exact (qRp_closed (fun x => x < 5 ∧ qhas (qit (fun X => qrd d c X (qS d)) (2 ^ z) (qS d)) x = true)
      (fun x hx1 => ⟨hx1.2.1, qrd_fix hd hZ hfix hyS hx1.2.1 (hhas (qS d)) hx1.2.2⟩)
      (fun a b ha hb => ⟨hb.2.1, qrd_fix hd hZ hfix (qE_lt hd hc hb).1 hb.2.1 ha.2 hb.2.2⟩) h2).2
theorem qrd_0 (d : qD) (c : Nat) : ∀ i, qrd d c 0 i = 0
  | 0 => rfl
  | i + 1 => by
    show (if qhas (qrd d c 0 i) i = true then qrd d c 0 i ||| qld d c i else qrd d c 0 i) = 0
    rw [qrd_0 d c i, if_neg]
    intro h
    rw [show qhas 0 i = false from Nat.zero_testBit i] at h
    cases h
theorem qit_0 {f : Nat → Nat} (hf : f 0 = 0) : ∀ k, qit f 0 k = 0
  | 0 => rfl
  | k + 1 => by show f (qit f 0 k) = 0; rw [qit_0 hf k, hf]
theorem qrc_none {d : qD} {c : Nat} (h : qH d c = 0) : qrc d c = 0 := by
  refine ((bi_0 _ (qset_lt _)).mpr (fun k hk => ?_))
  cases hz : qhas (qset (qin d c)) k with
  | false => rfl
  | true =>
    obtain ⟨y, h1, -⟩ := (qset_has _ hk).mp hz
    omega
theorem Tours_findReached {d : qD} {M : pm_M} (hd : qOK d) (h : qC M d) {c : Nat} (hc : c < 2) : sTours_findReached (nI c) M = some (nI (qrc d c), M) := by
  unfold sTours_findReached
  have hS := hd.1
  have hh := hd.2.2.2.2.1 c hc
  simp (disch := omega) only [nI_in_iff, hc, if_true, nI_clamp, h.2.2.2.1, q_jn]
  have key : ∀ X0, X0 < 32 → ∀ e, qit (fun X => qrd d c X (qS d)) X0 (qS d) = e → ∀ x3 : Int32, x3 = nI X0 →
      pm_loop (fun _ _ _ => none) (fun (g4 : Int32 → Int32 → pm_M → Option (Int32 × pm_M)) x6 x7 M5 => if (M5.1 1 0) ≤ x7 then (some (x6, M5)) else (pm_loop (fun _ _ _ => none) (fun (g8 : Int32 → Int32 → pm_M → Option (Int32 × pm_M)) x10 x11 M9 => if (M9.1 1 0) ≤ x11 then (pm_lt ((x7 + (1 : Int32))) fun x12 => g4 x10 x12 M9) else (pm_bd (sTours_hasBit x10 x11 M9) fun v14 M13 => if v14 = 0 then (pm_lt ((x11 + (1 : Int32))) fun x15 => g8 x10 x15 M13) else (pm_bd (sNet_ledTo_1 (nI c) x11 M13) fun v17 M16 => pm_lt ((x10 ||| v17)) fun x18 => pm_lt ((x11 + (1 : Int32))) fun x19 => g8 x18 x19 M16))) 1000000 x6 (0 : Int32) M5)) 1000000 x3 (0 : Int32) M = some (nI e, M) := by
    intro X0 hX e he x3 hx3
    subst he
    subst hx3
    have hf : ∀ Y, Y < 32 → qrd d c Y (qS d) < 32 := fun Y hY => qrd_lt hd hY _
    refine q_for (fun k (g : Int32 → Int32 → pm_M → Option (Int32 × pm_M)) => g (nI (qit (fun X => qrd d c X (qS d)) X0 k)) (nI k) M) (N := qS d) ?_ ?_ (by omega)
    · intro k hk g
      have hle : ¬ M.1 1 0 ≤ nI k := by rw [h.1, nI_le_iff (by omega) (by omega)]; omega
      have hX := qit_lt hX hf k
      rw [if_neg hle]
      generalize hXe : qit (fun X => qrd d c X (qS d)) X0 k = X at hX
      have hnext : qit (fun X => qrd d c X (qS d)) X0 (k + 1) = qrd d c X (qS d) := by show qrd d c (qit (fun X => qrd d c X (qS d)) X0 k) (qS d) = _; rw [hXe]
      rw [hnext]
      refine q_for (fun i (g8 : Int32 → Int32 → pm_M → Option (Int32 × pm_M)) => g8 (nI (qrd d c X i)) (nI i) M) (N := qS d) ?_ ?_ (by omega)
      · intro i hi g8
        have hle2 : ¬ M.1 1 0 ≤ nI i := by rw [h.1, nI_le_iff (by omega) (by omega)]; omega
        have hXi := qrd_lt hd (c := c) hX i
        rw [if_neg hle2, Tours_hasBit hXi (by omega), q_bd]
        by_cases hb : qhas (qrd d c X i) i = true
        · have hs : qrd d c X (i + 1) = qrd d c X i ||| qld d c i := by show (if qhas (qrd d c X i) i = true then _ else _) = _; rw [if_pos hb]
          rw [if_pos hb, if_neg (by decide), Net_ledTo hd h hc (by omega), q_bd, q_lt, q_lt, bi_or _ hXi _ (qld_lt hd c i), hs, ← nI_succ]
        · have hs : qrd d c X (i + 1) = qrd d c X i := by show (if qhas (qrd d c X i) i = true then _ else _) = _; rw [if_neg hb]
          rw [if_neg hb, if_pos rfl, q_lt, hs, ← nI_succ]
      · intro g8
        rw [if_pos (by rw [h.1]; exact Int32.le_refl _), q_lt, ← nI_succ]
    · intro g
      rw [if_pos (by rw [h.1]; exact Int32.le_refl _)]
  cases hx : qH d c with
  | zero =>
    rw [if_neg (fun q => q rfl)]
    exact key 0 (by omega) _ (by rw [qit_0 (f := fun X => qrd d c X (qS d)) (qrd_0 d c _), qrc_none hx]) 0 rfl
  | succ y =>
    rw [if_pos (show ¬ hI (y + 1) = -1 from nI_m1 (by omega))]
    exact key (2 ^ y) (bi_pow y (by omega)) _ (qrch_ok hd hc hx) _ (bi_sh y (by omega))
/-! those that come to HOME -/
def qrt (d : qD) (c y X : Nat) : Nat → Nat
  | 0 => X
  | i + 1 => if qld d c i &&& (2 ^ y ||| qrt d c y X i) = 0 then qrt d c y X i else qrt d c y X i ||| 2 ^ i
theorem qrt_lt {d : qD} {c y X : Nat} (hX : X < 32) : ∀ i, i ≤ 5 → qrt d c y X i < 32
  | 0, _ => hX
  | i + 1, hi => by
    have ih := qrt_lt (d := d) (c := c) (y := y) hX i (by omega)
    unfold qrt
    split
    · exact ih
    · exact bi_lt_or _ ih _ (bi_pow i (by omega))
theorem qrt_sub {d : qD} {c y X : Nat} (hX : X < 32) {k : Nat} (hk : k < 5) : ∀ i j, i ≤ j → j ≤ 5 → qhas (qrt d c y X i) k = true → qhas (qrt d c y X j) k = true
  | i, j, hij, hj, h => by
    induction hij with
    | refl => exact h
    | @step j hij ih =>
      have ih := ih (by omega)
      show qhas (if qld d c j &&& (2 ^ y ||| qrt d c y X j) = 0 then qrt d c y X j else qrt d c y X j ||| 2 ^ j) k = true
      split
      · exact ih
      · rw [bi_has_or _ (qrt_lt hX j (by omega)) _ (bi_pow j (by omega)) k hk, ih, Bool.true_or]
/-- does u lead to HOME, or to one that is in -/
def qto (d : qD) (c y X u : Nat) : Prop := ∃ t, qE d c u t ∧ (t = y ∨ qhas X t = true)
theorem qto_iff {d : qD} (hd : qOK d) {c y X u : Nat} (hy : y < 5) (hX : X < 32) (hu : u < 5) : ¬ qld d c u &&& (2 ^ y ||| X) = 0 ↔ qto d c y X u := by
  have hl := qld_lt hd c u
  have hp := bi_pow y hy
  have ho := bi_lt_or _ hp _ hX
  rw [bi_0 _ (bi_lt_and _ hl _ ho)]
  constructor
  · intro h
    have : ∃ k, k < 5 ∧ qhas (qld d c u &&& (2 ^ y ||| X)) k = true := by
      apply Classical.byContradiction
      intro q
      refine h (fun k hk => ?_)
      cases hz : qhas (qld d c u &&& (2 ^ y ||| X)) k with
      | false => rfl
      | true => exact absurd ⟨k, hk, hz⟩ q
    obtain ⟨k, hk, hz⟩ := this
    rw [bi_has_and _ hl _ ho k hk, bi_has_or _ hp _ hX k hk, bi_has_pow y hy k hk, Bool.and_eq_true, Bool.or_eq_true, decide_eq_true_eq] at hz
    refine ⟨k, ⟨hu, hk, hz.1⟩, ?_⟩
    rcases hz.2 with q | q
    · exact Or.inl q.symm
    · exact Or.inr q
  · rintro ⟨t, hE, ht⟩ h
    have h1 := h t hE.2.1
    rw [bi_has_and _ hl _ ho t hE.2.1, bi_has_or _ hp _ hX t hE.2.1, bi_has_pow y hy t hE.2.1, hE.2.2] at h1
    rcases ht with rfl | ht
    · simp at h1
    · rw [ht] at h1; simp at h1
theorem qrt_fix {d : qD} (hd : qOK d) {c y X u : Nat} (hy : y < 5) (hX : X < 32) (h : qrt d c y X (qS d) = X) (hu : u < qS d) (ht : qto d c y X u) : qhas X u = true := by
  have hS := hd.1
  have hXu := qrt_lt (d := d) (c := c) (y := y) hX u (by omega)
  have h1 : qto d c y (qrt d c y X u) u := by
    obtain ⟨t, hE, q⟩ := ht
    refine ⟨t, hE, ?_⟩
    rcases q with q | q
    · exact Or.inl q
    · exact Or.inr (qrt_sub hX hE.2.1 0 u (Nat.zero_le _) (by omega) q)
  have h2 : qhas (qrt d c y X (u + 1)) u = true := by
    show qhas (if qld d c u &&& (2 ^ y ||| qrt d c y X u) = 0 then qrt d c y X u else qrt d c y X u ||| 2 ^ u) u = true
    rw [if_neg ((qto_iff hd hy hXu (by omega)).mpr h1), bi_has_or _ hXu _ (bi_pow u (by omega)) u (by omega), bi_has_pow u (by omega) u (by omega)]
    simp
  rw [← h]
  exact qrt_sub hX (by omega) (u + 1) (qS d) hu hS h2
theorem qrt_in {d : qD} (hd : qOK d) {c y X : Nat} (hy : y < 5) (hX : X < 32) (hin : ∀ t, t < 5 → qhas X t = true → qRp d c t y) : ∀ i, i ≤ 5 → ∀ t, t < 5 → qhas (qrt d c y X i) t = true → qRp d c t y
  | 0, _, t, ht, hx => hin t ht hx
  | i + 1, hi, t, ht, hx => by
    have ih := qrt_in hd hy hX hin i (by omega)
    have hXi := qrt_lt (d := d) (c := c) (y := y) hX i (by omega)
    have hx2 : qhas (if qld d c i &&& (2 ^ y ||| qrt d c y X i) = 0 then qrt d c y X i else qrt d c y X i ||| 2 ^ i) t = true := hx
    split at hx2
    · exact ih t ht hx2
    · rename_i hne
      rw [bi_has_or _ hXi _ (bi_pow i (by omega)) t ht, Bool.or_eq_true, bi_has_pow i (by omega) t ht, decide_eq_true_eq] at hx2
      rcases hx2 with q | rfl
      · exact ih t ht q
      · obtain ⟨x, hE, q⟩ := (qto_iff hd hy hXi (by omega)).mp hne
        rcases q with rfl | q
        · exact qRp_1 hE
        · exact qRp_c hE (ih x hE.2.1 q)
theorem qret_ok {d : qD} (hd : qOK d) {c y : Nat} (hc : c < 2) (hy : y < qS d) : qit (fun X => qrt d c y X (qS d)) 0 (qS d) = qset (fun s => qRp d c s y) := by
  have hS := hd.1
  have hy5 : y < 5 := by omega
  have hf : ∀ Y, Y < 32 → qrt d c y Y (qS d) < 32 := fun Y hY => qrt_lt hY _ hS
  have hsub : ∀ Y, Y < 32 → ∀ k, k < 5 → qhas Y k = true → qhas (qrt d c y Y (qS d)) k = true := fun Y hY k hk h => qrt_sub hY hk 0 _ (Nat.zero_le _) hS h
  have hin : ∀ k, ∀ t, t < 5 → qhas (qit (fun X => qrt d c y X (qS d)) 0 k) t = true → qRp d c t y := by
    intro k
    induction k with
    | zero =>
      intro t ht h
      rw [show qhas (qit (fun X => qrt d c y X (qS d)) 0 0) t = false from Nat.zero_testBit t] at h
      cases h
    | succ k ih => exact qrt_in hd hy5 (qit_lt (by omega) hf k) ih (qS d) hS
  have hZ := qit_lt (x := 0) (by omega) hf (qS d)
  refine qset_eq hZ (fun t ht => ⟨hin (qS d) t ht, fun hr => ?_⟩)
  have htS := (qRp_S hd hc hr).1
  rcases qit_rest (x := 0) (by omega) hS hf hsub (qS d) with h | h
  · have := qRp_closed' (fun x => x < 5 ∧ qhas (qit (fun X => qrt d c y X (qS d)) 0 (qS d)) x = true)
      (fun x hx => ⟨hx.1, qrt_fix hd hy5 hZ h (qE_lt hd hc hx).1 ⟨y, hx, Or.inl rfl⟩⟩)
      (fun a b hb hE => ⟨hE.1, qrt_fix hd hy5 hZ h (qE_lt hd hc hE).1 ⟨b, hE, Or.inr hb.2⟩⟩) hr
    exact this.2
  · refine bi_cnt_full (qS d) hS _ hZ (fun k hk hb => (qRp_S hd hc (hin (qS d) k hk hb)).1) ?_ t htS
    have : qcnt 0 = 0 := by decide
    omega
theorem Tours_findReturning {d : qD} {M : pm_M} (hd : qOK d) (h : qC M d) {c y : Nat} (hc : c < 2) (hx : qH d c = y + 1) : sTours_findReturning (nI c) M = some (nI (qset (fun s => qRp d c s y)), M) := by
  unfold sTours_findReturning
  have hS := hd.1
  have hh := hd.2.2.2.2.1 c hc
  have hy : y < qS d := by omega
  simp (disch := omega) only [nI_in_iff, hc, if_true, nI_clamp, h.2.2.2.1, q_jn, hx]
  rw [if_pos (show ¬ hI (y + 1) = -1 from nI_m1 (by omega)), show hI (y + 1) = nI y from rfl, bi_sh y (by omega), ← qret_ok hd hc hy]
  have hf : ∀ Y, Y < 32 → qrt d c y Y (qS d) < 32 := fun Y hY => qrt_lt hY _ hS
  refine q_for (fun k (g : Int32 → Int32 → pm_M → Option (Int32 × pm_M)) => g (nI (qit (fun X => qrt d c y X (qS d)) 0 k)) (nI k) M) (N := qS d) ?_ ?_ (by omega)
  · intro k hk g
    have hle : ¬ M.1 1 0 ≤ nI k := by rw [h.1, nI_le_iff (by omega) (by omega)]; omega
    have hX := qit_lt (x := 0) (by omega) hf k
    rw [if_neg hle]
    generalize hXe : qit (fun X => qrt d c y X (qS d)) 0 k = X at hX
    have hnext : qit (fun X => qrt d c y X (qS d)) 0 (k + 1) = qrt d c y X (qS d) := by show qrt d c y (qit (fun X => qrt d c y X (qS d)) 0 k) (qS d) = _; rw [hXe]
    rw [hnext]
    refine q_for (fun i (g8 : Int32 → Int32 → pm_M → Option (Int32 × pm_M)) => g8 (nI (qrt d c y X i)) (nI i) M) (N := qS d) ?_ ?_ (by omega)
    · intro i hi g8
      have hle2 : ¬ M.1 1 0 ≤ nI i := by rw [h.1, nI_le_iff (by omega) (by omega)]; omega
      have hXi := qrt_lt (d := d) (c := c) (y := y) hX i (by omega)
      have hp := bi_pow y (by omega)
      have ho := bi_lt_or _ hp _ hXi
      have hl := qld_lt hd c i
      rw [if_neg hle2, Net_ledTo hd h hc (by omega), q_bd, bi_or _ hp _ hXi, bi_and _ hl _ ho]
      by_cases hb : qld d c i &&& (2 ^ y ||| qrt d c y X i) = 0
      · have hs : qrt d c y X (i + 1) = qrt d c y X i := by show (if qld d c i &&& (2 ^ y ||| qrt d c y X i) = 0 then _ else _) = _; rw [if_pos hb]
        rw [hb, if_pos (show nI 0 = 0 from rfl), q_lt, hs, ← nI_succ]
      · have hs : qrt d c y X (i + 1) = qrt d c y X i ||| 2 ^ i := by show (if qld d c i &&& (2 ^ y ||| qrt d c y X i) = 0 then _ else _) = _; rw [if_neg hb]
        have hlt := bi_lt_and _ hl _ ho
        rw [if_neg (by rw [q0, nI_inj (by omega) (by omega)]; exact hb), q_lt, q_lt, bi_sh i (by omega), bi_or _ hXi _ (bi_pow i (by omega)), hs, ← nI_succ]
    · intro g8
      rw [if_pos (by rw [h.1]; exact Int32.le_refl _), q_lt, ← nI_succ]
  · intro g
    rw [if_pos (by rw [h.1]; exact Int32.le_refl _)]
