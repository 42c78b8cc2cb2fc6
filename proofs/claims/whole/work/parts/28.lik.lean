/-! THE LIKELIEST: what is walked through, as numbers -/
def qdw {β : Type} (f : Nat → β → β) (lo : Nat) : Nat → β → β
  | 0, b => b
  | m + 1, b => qdw f lo m (f (lo + m) b)
abbrev qB : Type := Nat × (Nat → Nat)
def fupd (f : Nat → Nat) (k x : Nat) : Nat → Nat := fun j => if j = k then x else f j
theorem fupd_at (f : Nat → Nat) (k x : Nat) : fupd f k x k = x := if_pos rfl
theorem fupd_ne (f : Nat → Nat) {k j : Nat} (x : Nat) (h : j ≠ k) : fupd f k x j = f j := if_neg h
def qsu (σ : Nat → Nat) (c s : Nat) : Nat := qsm (fun i => σ (5 * c + i)) s
theorem qsu_s (σ : Nat → Nat) (c s : Nat) : qsu σ c (s + 1) = qsu σ c s + σ (5 * c + s) := rfl
theorem qsu_ne (σ : Nat → Nat) {c i k : Nat} (x : Nat) (h : ∀ j, j < i → 5 * c + j ≠ k) : qsu (fupd σ k x) c i = qsu σ c i := qsm_cg i (fun j hj => fupd_ne σ x (h j hj))
theorem qsu_le (σ : Nat → Nat) (c : Nat) {s t : Nat} (h : s ≤ t) : qsu σ c s ≤ qsu σ c t := by
  induction h with
  | refl => exact Nat.le_refl _
  | step _ ih => exact Nat.le_trans ih (Nat.le_add_right _ _)
def qpd (f : Nat → Nat) : Nat → Nat
  | 0 => 1
  | n + 1 => qpd f n * f n
theorem qpd_cg {f g : Nat → Nat} : ∀ n, (∀ i, i < n → f i = g i) → qpd f n = qpd g n
  | 0, _ => rfl
  | n + 1, h => by
    show qpd f n * f n = qpd g n * g n
    rw [qpd_cg n (fun i hi => h i (by omega)), h n (by omega)]
noncomputable def qfx (d : qD) (σ : Nat → Nat) (c i : Nat) : Nat := qch (qP d c - qsu σ c i) (σ (5 * c + i)) * qdd d c i ^ σ (5 * c + i) * (if c = 1 ∧ qK d i ≠ 3 then qfa (σ i + σ (5 + i)) else 1)
noncomputable def qpw (d : qD) (σ : Nat → Nat) (c s : Nat) : Nat := qpd (qfx d σ c) s
noncomputable def qww (d : qD) (σ : Nat → Nat) (c s : Nat) : Nat := if c = 0 then qpw d σ 0 s else qpw d σ 0 (qS d) * qpw d σ 1 s
noncomputable def qwg (d : qD) (σ : Nat → Nat) : Nat := qpw d σ 0 (qS d) * qpw d σ 1 (qS d)
def qva (d : qD) (σ : Nat → Nat) (c s : Nat) : Prop := (∀ i, i < s → σ (5 * c + i) = 0 ∨ 0 < qdd d c i) ∧ qsu σ c s ≤ qP d c ∧ (s = qS d → qsu σ c s = qP d c) ∧ (c = 1 → (∀ i, i < qS d → σ i = 0 ∨ 0 < qdd d 0 i) ∧ qsu σ 0 (qS d) = qP d 0)
theorem qfx_ne (d : qD) (σ : Nat → Nat) {c s c' i : Nat} (x : Nat) (hs : s < 5) (hi : i < 5) (h : c' < c ∨ (c' = c ∧ i < s)) (hc : c < 2) : qfx d (fupd σ (5 * c + s) x) c' i = qfx d σ c' i := by
  unfold qfx
  rw [qsu_ne σ x (fun j hj => by omega), fupd_ne σ x (show 5 * c' + i ≠ 5 * c + s by omega)]
  by_cases q : c' = 1 ∧ qK d i ≠ 3
  · rw [if_pos q, if_pos q, fupd_ne σ x (show i ≠ 5 * c + s by omega), fupd_ne σ x (show 5 + i ≠ 5 * c + s by omega)]
  · rw [if_neg q, if_neg q]
theorem qpw_ne (d : qD) (σ : Nat → Nat) {c s c' n : Nat} (x : Nat) (hs : s < 5) (hn : n ≤ 5) (h : c' < c ∨ (c' = c ∧ n ≤ s)) (hc : c < 2) : qpw d (fupd σ (5 * c + s) x) c' n = qpw d σ c' n :=
  qpd_cg n (fun i hi => qfx_ne d σ x hs (by omega) (by omega) hc)
/-- the factor of n at the next place -/
noncomputable def qfn (d : qD) (σ : Nat → Nat) (c s n : Nat) : Nat := qch (qP d c - qsu σ c s) n * qdd d c s ^ n * (if c = 1 ∧ qK d s ≠ 3 then qfa (σ s + n) else 1)
theorem qfx_at (d : qD) (σ : Nat → Nat) {c s : Nat} (n : Nat) (hc : c < 2) (hs : s < 5) : qfx d (fupd σ (5 * c + s) n) c s = qfn d σ c s n := by
  unfold qfx qfn
  rw [qsu_ne σ n (fun j hj => by omega), fupd_at]
  by_cases q : c = 1 ∧ qK d s ≠ 3
  · have hc1 := q.1
    subst hc1
    rw [if_pos q, if_pos q, fupd_ne σ n (show s ≠ 5 * 1 + s by omega), show 5 + s = 5 * 1 + s from rfl, fupd_at]
  · rw [if_neg q, if_neg q]
theorem qww_step (d : qD) (σ : Nat → Nat) {c s : Nat} (n : Nat) (hc : c < 2) (hs : s < 5) (hS : qS d ≤ 5) : qww d (fupd σ (5 * c + s) n) c (s + 1) = qww d σ c s * qfn d σ c s n := by
  have e : ∀ c', qpw d (fupd σ (5 * c' + s) n) c' (s + 1) = qpw d (fupd σ (5 * c' + s) n) c' s * qfx d (fupd σ (5 * c' + s) n) c' s := fun _ => rfl
  unfold qww
  rcases (show c = 0 ∨ c = 1 by omega) with rfl | rfl
  · rw [if_pos rfl, if_pos rfl, e, qpw_ne d σ n hs (by omega) (Or.inr ⟨rfl, Nat.le_refl _⟩) hc, qfx_at d σ n hc hs]
  · rw [if_neg (by decide), if_neg (by decide), e, qpw_ne d σ n hs hS (Or.inl (by decide)) hc, qpw_ne d σ n hs (by omega) (Or.inr ⟨rfl, Nat.le_refl _⟩) hc, qfx_at d σ n hc hs, Nat.mul_assoc]
theorem bi_chf : ∀ l, l < 7 → ∀ n, n < l + 1 → 0 < qch l n ∧ qch l n * qfa (l - n) ≤ qfa l := by decide +kernel
theorem qfa_add (a : Nat) : ∀ b, qfa a * qfa b ≤ qfa (a + b)
  | 0 => by show qfa a * 1 ≤ qfa a; omega
  | b + 1 => by
    show qfa a * ((b + 1) * qfa b) ≤ (a + b + 1) * qfa (a + b)
    have h := qfa_add a b
    calc qfa a * ((b + 1) * qfa b) = (b + 1) * (qfa a * qfa b) := by ac_rfl
      _ ≤ (a + b + 1) * qfa (a + b) := Nat.mul_le_mul (by omega) h
theorem qpw_b {d : qD} (hd : qOK d) (hsn : qsnd d) (σ : Nat → Nat) {c : Nat} (hc : c < 2) : ∀ s, qsu σ c s ≤ qP d c → qpw d σ c s * (qfa (qP d c - qsu σ c s) * 20 ^ (qP d c - qsu σ c s)) ≤ qfa (qP d c) * 20 ^ qP d c * (if c = 1 then qfa (qsu σ 0 s + qsu σ 1 s) else 1)
  | 0, _ => by
    show 1 * (qfa (qP d c - 0) * 20 ^ (qP d c - 0)) ≤ _
    rw [Nat.one_mul, Nat.sub_zero]
    split
    · show _ ≤ _ * 1; omega
    · omega
  | s + 1, h => by
    have hP := hd.2.2.2.2.2.1 c
    rw [qsu_s] at h
    have ih := qpw_b hd hsn σ hc s (by omega)
    have e : qpw d σ c (s + 1) = qpw d σ c s * qfx d σ c s := rfl
    generalize hl : qP d c - qsu σ c s = l at ih
    generalize hn : σ (5 * c + s) = n at h
    have hnl : n ≤ l := by omega
    have e2 : qP d c - qsu σ c (s + 1) = l - n := by rw [qsu_s, hn]; omega
    obtain ⟨-, hch⟩ := bi_chf l (by omega) n (by omega)
    have hpow : qdd d c s ^ n ≤ 20 ^ n := Nat.pow_le_pow_left (qdd_20 hd hsn c s hc) n
    have e20 : (20 : Nat) ^ l = 20 ^ n * 20 ^ (l - n) := by rw [← Nat.pow_add]; congr 1; omega
    rw [e, e2]
    have efx : qfx d σ c s = qch l n * qdd d c s ^ n * (if c = 1 ∧ qK d s ≠ 3 then qfa (σ s + σ (5 + s)) else 1) := by
      unfold qfx
      rw [hl, hn]
    rw [efx]
    generalize hE : (if c = 1 ∧ qK d s ≠ 3 then qfa (σ s + σ (5 + s)) else 1) = E
    have h1 : qch l n * qdd d c s ^ n * (qfa (l - n) * 20 ^ (l - n)) ≤ qfa l * 20 ^ l := by
      rw [e20]
      calc qch l n * qdd d c s ^ n * (qfa (l - n) * 20 ^ (l - n)) = qch l n * qfa (l - n) * (qdd d c s ^ n * 20 ^ (l - n)) := by ac_rfl
        _ ≤ qfa l * (20 ^ n * 20 ^ (l - n)) := Nat.mul_le_mul hch (Nat.mul_le_mul_right _ hpow)
    have h2 : (if c = 1 then qfa (qsu σ 0 s + qsu σ 1 s) else 1) * E ≤ (if c = 1 then qfa (qsu σ 0 (s + 1) + qsu σ 1 (s + 1)) else 1) := by
      by_cases q : c = 1
      · rw [if_pos q, if_pos q]
        have hle : E ≤ qfa (σ s + σ (5 + s)) := by
          rw [← hE]
          split
          · exact Nat.le_refl _
          · exact qfa_1 _
        have e3 : qsu σ 0 (s + 1) + qsu σ 1 (s + 1) = (qsu σ 0 s + qsu σ 1 s) + (σ s + σ (5 + s)) := by
          rw [qsu_s, qsu_s, Nat.mul_zero, Nat.zero_add, Nat.mul_one]
          omega
        rw [e3]
        exact Nat.le_trans (Nat.mul_le_mul_left _ hle) (qfa_add _ _)
      · rw [if_neg q, if_neg q]
        rw [if_neg (fun z => q z.1)] at hE
        omega
    calc qpw d σ c s * (qch l n * qdd d c s ^ n * E) * (qfa (l - n) * 20 ^ (l - n)) = qpw d σ c s * (qch l n * qdd d c s ^ n * (qfa (l - n) * 20 ^ (l - n))) * E := by ac_rfl
      _ ≤ qpw d σ c s * (qfa l * 20 ^ l) * E := Nat.mul_le_mul_right _ (Nat.mul_le_mul_left _ h1)
      _ ≤ qfa (qP d c) * 20 ^ qP d c * (if c = 1 then qfa (qsu σ 0 s + qsu σ 1 s) else 1) * E := Nat.mul_le_mul_right _ ih
      _ = qfa (qP d c) * 20 ^ qP d c * ((if c = 1 then qfa (qsu σ 0 s + qsu σ 1 s) else 1) * E) := Nat.mul_assoc _ _ _
      _ ≤ _ := Nat.mul_le_mul_left _ h2
theorem bi_wb : ∀ x, x < 7 → ∀ y, y < 7 → x + y < 9 → qfa x * 20 ^ x * (qfa y * 20 ^ y * 40320) ≤ 1486356480000000000 := by decide +kernel
theorem qfa_le8 {n : Nat} (h : n ≤ 8) : qfa n ≤ 40320 := (bi_fl n (by omega)).2
theorem qpw_b2 {d : qD} (hd : qOK d) (hsn : qsnd d) (σ : Nat → Nat) {c s : Nat} (hc : c < 2) (h : qsu σ c s ≤ qP d c) (h0 : c = 1 → qsu σ 0 s ≤ qP d 0) : qpw d σ c s ≤ qfa (qP d c) * 20 ^ qP d c * (if c = 1 then 40320 else 1) := by
  have h1 := qpw_b hd hsn σ hc s h
  have h2 : 1 ≤ qfa (qP d c - qsu σ c s) * 20 ^ (qP d c - qsu σ c s) := Nat.mul_pos (qfa_1 _) (Nat.pow_pos (by omega))
  have h3 : qpw d σ c s * 1 ≤ qpw d σ c s * (qfa (qP d c - qsu σ c s) * 20 ^ (qP d c - qsu σ c s)) := Nat.mul_le_mul_left _ h2
  rw [Nat.mul_one] at h3
  refine Nat.le_trans h3 (Nat.le_trans h1 (Nat.mul_le_mul_left _ ?_))
  by_cases q : c = 1
  · rw [if_pos q, if_pos q]
    have := h0 q
    have h8 := hd.2.2.2.2.2.2.1
    rw [q] at h
    exact qfa_le8 (by omega)
  · rw [if_neg q, if_neg q]
    exact Nat.le_refl _
theorem qww_le {d : qD} (hd : qOK d) (hsn : qsnd d) {σ : Nat → Nat} {c s : Nat} (hc : c < 2) (hs : s ≤ qS d) (h : qva d σ c s) : qww d σ c s ≤ 1486356480000000000 := by
  have hb := bi_wb (qP d 0) (by have := hd.2.2.2.2.2.1 0; omega) (qP d 1) (by have := hd.2.2.2.2.2.1 1; omega) (by have := hd.2.2.2.2.2.2.1; omega)
  have one : 1 ≤ qfa (qP d 1) * 20 ^ qP d 1 * 40320 := Nat.mul_pos (Nat.mul_pos (qfa_1 _) (Nat.pow_pos (by omega))) (by omega)
  unfold qww
  rcases (show c = 0 ∨ c = 1 by omega) with rfl | rfl
  · rw [if_pos rfl]
    have h1 := qpw_b2 hd hsn σ (c := 0) (s := s) (by omega) h.2.1 (fun q => absurd q (by decide))
    rw [if_neg (by decide), Nat.mul_one] at h1
    have h2 : qfa (qP d 0) * 20 ^ qP d 0 * 1 ≤ qfa (qP d 0) * 20 ^ qP d 0 * (qfa (qP d 1) * 20 ^ qP d 1 * 40320) := Nat.mul_le_mul_left _ one
    omega
  · rw [if_neg (by decide)]
    obtain ⟨-, hx⟩ := h.2.2.2 rfl
    have h1 := qpw_b2 hd hsn σ (c := 0) (s := qS d) (by omega) (Nat.le_of_eq hx) (fun q => absurd q (by decide))
    rw [if_neg (by decide), Nat.mul_one] at h1
    have h2 := qpw_b2 hd hsn σ (c := 1) (s := s) (by omega) h.2.1 (fun _ => by have := qsu_le σ 0 hs; omega)
    rw [if_pos rfl] at h2
    exact Nat.le_trans (Nat.mul_le_mul h1 h2) hb
theorem qpw_pos {d : qD} (hd : qOK d) (σ : Nat → Nat) {c : Nat} : ∀ s, (∀ i, i < s → σ (5 * c + i) = 0 ∨ 0 < qdd d c i) → qsu σ c s ≤ qP d c → 0 < qpw d σ c s
  | 0, _, _ => Nat.one_pos
  | s + 1, h, hs => by
    have hP := hd.2.2.2.2.2.1 c
    rw [qsu_s] at hs
    have ih := qpw_pos hd σ s (fun i hi => h i (by omega)) (by omega)
    show 0 < qpw d σ c s * qfx d σ c s
    refine Nat.mul_pos ih ?_
    unfold qfx
    refine Nat.mul_pos (Nat.mul_pos (bi_chf _ (by omega) _ (by omega)).1 ?_) ?_
    · rcases h s (by omega) with q | q
      · rw [q]; exact Nat.one_pos
      · exact Nat.pow_pos q
    · split
      · exact qfa_1 _
      · exact Nat.one_pos
theorem qww_pos {d : qD} (hd : qOK d) {σ : Nat → Nat} {c s : Nat} (hc : c < 2) (h : qva d σ c s) : 0 < qww d σ c s := by
  unfold qww
  rcases (show c = 0 ∨ c = 1 by omega) with rfl | rfl
  · rw [if_pos rfl]
    exact qpw_pos hd σ s h.1 h.2.1
  · rw [if_neg (by decide)]
    obtain ⟨h1, h2⟩ := h.2.2.2 rfl
    exact Nat.mul_pos (qpw_pos hd σ (c := 0) _ (fun i hi => by rw [Nat.mul_zero, Nat.zero_add]; exact h1 i hi) (Nat.le_of_eq h2)) (qpw_pos hd σ s h.1 h.2.1)
/-- one more is laid -/
theorem qva_step {d : qD} {σ : Nat → Nat} {c s n : Nat} (hc : c < 2) (hs : s < qS d) (hS : qS d ≤ 5) (h : qva d σ c s) (hn : n ≤ qP d c - qsu σ c s) (hl : s + 1 = qS d → n = qP d c - qsu σ c s) (hD : n = 0 ∨ 0 < qdd d c s) : qva d (fupd σ (5 * c + s) n) c (s + 1) := by
  obtain ⟨h1, h2, h3, h4⟩ := h
  have e : qsu (fupd σ (5 * c + s) n) c (s + 1) = qsu σ c s + n := by rw [qsu_s, qsu_ne σ n (fun j hj => by omega), fupd_at]
  refine ⟨fun i hi => ?_, by omega, fun q => by have := hl q; omega, fun q => ?_⟩
  · by_cases q : i = s
    · rw [q, fupd_at]; exact hD
    · rw [fupd_ne σ n (show 5 * c + i ≠ 5 * c + s by omega)]
      exact h1 i (by omega)
  · obtain ⟨h5, h6⟩ := h4 q
    refine ⟨fun i hi => ?_, ?_⟩
    · rw [fupd_ne σ n (show i ≠ 5 * c + s by omega)]
      exact h5 i hi
    · rw [qsu_ne σ n (fun j hj => by omega)]
      exact h6
theorem qfn_0 {d : qD} {σ : Nat → Nat} {c s n : Nat} (hn : n ≤ qP d c - qsu σ c s) (hP : qP d c ≤ 6) : 0 < qfn d σ c s n ↔ n = 0 ∨ 0 < qdd d c s := by
  unfold qfn
  constructor
  · intro h
    by_cases q : n = 0
    · exact Or.inl q
    · right
      apply Classical.byContradiction
      intro z
      rw [show qdd d c s = 0 by omega, Nat.zero_pow (by omega), Nat.mul_zero, Nat.zero_mul] at h
      omega
  · intro h
    refine Nat.mul_pos (Nat.mul_pos (bi_chf _ (by omega) _ (by omega)).1 ?_) ?_
    · rcases h with q | q
      · rw [q]; exact Nat.one_pos
      · exact Nat.pow_pos q
    · split
      · exact qfa_1 _
      · exact Nat.one_pos
/-- the walk: stations of a class, k left -/
noncomputable def qly (d : qD) (c : Nat) (leaf : (Nat → Nat) → qB → qB) : Nat → (Nat → Nat) → qB → qB
  | 0 => leaf
  | k + 1 => fun σ b => qdw (fun n b => if n = 0 ∨ 0 < qdd d c (qS d - (k + 1)) then qly d c leaf k (fupd σ (5 * c + (qS d - (k + 1))) n) b else b) (if k = 0 then qP d c - qsu σ c (qS d - (k + 1)) else 0) (qP d c - qsu σ c (qS d - (k + 1)) + 1 - (if k = 0 then qP d c - qsu σ c (qS d - (k + 1)) else 0)) b
noncomputable def qlf (d : qD) (σ : Nat → Nat) (b : qB) : qB := if b.1 < qwg d σ then (qwg d σ, σ) else b
noncomputable def qbe (d : qD) : qB := qly d 0 (qly d 1 (qlf d) (qS d)) (qS d) (fun _ => 0) (0, fun _ => 0)
/-- a loop that goes down from the state N to lo -/
theorem q_dl {α β ρ : Type} {bot : β} {F : β → β} (Z : Option ρ → Prop) (ap : Nat → α → β → Option ρ) (P : Nat → α → Prop) (lo : Nat) (hs : ∀ j a, lo ≤ j → P (j + 1) a → ∀ g, ∃ a', P j a' ∧ ap (j + 1) a (F g) = ap j a' g) (he : ∀ a, P lo a → ∀ g, Z (ap lo a (F g))) {N n : Nat} {a : α} (hN : lo ≤ N) (hn : N - lo < n) (h0 : P N a) : Z (ap N a (pm_loop bot F n)) := by
  have key : ∀ m n a, m < n → P (lo + m) a → Z (ap (lo + m) a (pm_loop bot F n)) := by
    intro m
    induction m with
    | zero =>
      intro n a h1 h2
      cases n with
      | zero => omega
      | succ n =>
        rw [q_lp]
        exact he a h2 _
    | succ m ih =>
      intro n a h1 h2
      cases n with
      | zero => omega
      | succ n =>
        rw [q_lp]
        obtain ⟨a', h3, h4⟩ := hs (lo + m) a (by omega) h2 (pm_loop bot F n)
        rw [show lo + (m + 1) = lo + m + 1 from rfl, h4]
        exact ih n a' (by omega) h3
  have := key (N - lo) n a hn (by rw [show lo + (N - lo) = N by omega]; exact h0)
  rwa [show lo + (N - lo) = N by omega] at this
