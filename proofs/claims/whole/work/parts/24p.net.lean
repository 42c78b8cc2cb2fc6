/-! the net's minors: no set within what a class reaches, less one, is closed -/
def ls_sum (f : Nat → Int) : List Nat → Int
  | [] => 0
  | x :: l => f x + ls_sum f l
theorem ls_app (f : Nat → Int) (l : List Nat) (x : Nat) : ls_sum f (l ++ [x]) = ls_sum f l + f x := by
  induction l with
  | nil => show f x + 0 = 0 + f x; omega
  | cons y l ih => show f y + ls_sum f (l ++ [x]) = f y + ls_sum f l + f x; rw [ih]; omega
theorem ls_filter (f : Nat → Int) (p : Nat → Bool) (l : List Nat) : ls_sum f (l.filter p) = ls_sum (fun t => if p t = true then f t else 0) l := by
  induction l with
  | nil => rfl
  | cons y l ih =>
    by_cases h : p y = true
    · rw [List.filter_cons_of_pos h]
      show f y + ls_sum f (l.filter p) = (if p y = true then f y else 0) + _
      rw [if_pos h, ih]
    · rw [List.filter_cons_of_neg h]
      show ls_sum f (l.filter p) = (if p y = true then f y else 0) + _
      rw [if_neg h, ih]
      omega
theorem qrs_take (a : Nat → Nat → Int) (f : Nat → Int) (l : List Nat) (i : Nat) : ∀ n, n ≤ l.length → (∀ j, j < n → a i j = f (l.getD j 0)) → qrs a i n = ls_sum f (l.take n)
  | 0, _, _ => rfl
  | n + 1, hn, h => by
    show qrs a i n + a i n = _
    rw [qrs_take a f l i n (by omega) (fun j hj => h j (by omega)), List.take_add_one, h n (by omega)]
    have : l[n]? = some (l.getD n 0) := by
      rw [List.getD_eq_getElem?_getD, List.getElem?_eq_getElem (by omega)]
      rfl
    rw [this]
    exact (ls_app f _ _).symm
theorem qml_in : ∀ m, m < 32 → ∀ p, p < (qml m).length → qhas m ((qml m).getD p 0) = true := by decide +kernel
theorem qml_of : ∀ m, m < 32 → ∀ t, t < 5 → qhas m t = true → (qml m).idxOf t < (qml m).length ∧ (qml m).getD ((qml m).idxOf t) 0 = t := by decide +kernel
/-- the sum over the five -/
def sm5 (f : Nat → Int) : Int := f 0 + f 1 + f 2 + f 3 + f 4
theorem ls_qml (f : Nat → Int) (m : Nat) : ls_sum f (qml m) = sm5 (fun t => if qhas m t = true then f t else 0) := by
  unfold qml
  rw [ls_filter]
  show (_ : Int) + (_ + (_ + (_ + (_ + 0)))) = _
  unfold sm5
  dsimp only
  omega
theorem qws_out {d : qD} (hd : qOK d) {c s : Nat} (hc : c < 2) (hs : s < 5) : ∀ j, qS d + j ≤ 5 → qws d c s (qS d + j) = qwt d c s
  | 0, _ => rfl
  | j + 1, h => by
    show qws d c s (qS d + j) + qw d c s (qS d + j) = _
    rw [qws_out hd hc hs j (by omega)]
    have : qw d c s (qS d + j) = 0 := by
      apply Classical.byContradiction
      intro q
      have := (hd.2.2.2.2.2.2.2.2 c s (qS d + j) hc hs (by omega) q).2
      omega
    omega
theorem qwt_5 {d : qD} (hd : qOK d) {c s : Nat} (hc : c < 2) (hs : s < 5) : (qwt d c s : Int) = sm5 (fun t => (qw d c s t : Int)) := by
  have h := qws_out hd hc hs (5 - qS d) (by have := hd.1; omega)
  rw [show qS d + (5 - qS d) = 5 by have := hd.1; omega] at h
  rw [← h]
  show ((((((0 + qw d c s 0) + qw d c s 1) + qw d c s 2) + qw d c s 3) + qw d c s 4 : Nat) : Int) = _
  unfold sm5
  dsimp only
  omega
theorem qsub_row {d : qD} (hd : qOK d) {c m : Nat} (hc : c < 2) (hm : m < 32) {i : Nat} (hi : i < (qml m).length) : qrs (qsub (qen d c) m) i (qml m).length = sm5 (fun t => if qhas m t = true then 0 else (qw d c ((qml m).getD i 0) t : Int)) := by
  have hs := qml_lt m hm i hi
  have hin := qml_in m hm i hi
  generalize hsv : (qml m).getD i 0 = s at hs hin
  rw [qrs_take (qsub (qen d c) m) (qen d c s) (qml m) i _ (Nat.le_refl _) (fun j hj => by unfold qsub; rw [hsv]), List.take_length, ls_qml]
  have hw := qwt_5 hd hc hs
  have key : ∀ t, (if qhas m t = true then qen d c s t else 0) = (if t = s then (qwt d c s : Int) else 0) - (if qhas m t = true then (qw d c s t : Int) else 0) := by
    intro t
    unfold qen
    by_cases h : s = t
    · subst h
      rw [if_pos hin, if_pos rfl, if_pos rfl, if_pos hin]
    · rw [if_neg h, if_neg (show ¬ t = s from fun q => h q.symm)]
      by_cases hb : qhas m t = true
      · rw [if_pos hb, if_pos hb]; omega
      · rw [if_neg hb, if_neg hb]; rfl
  have k2 : ∀ t, (if qhas m t = true then 0 else (qw d c s t : Int)) = (qw d c s t : Int) - (if qhas m t = true then (qw d c s t : Int) else 0) := by
    intro t
    by_cases hb : qhas m t = true
    · rw [if_pos hb, if_pos hb]; omega
    · rw [if_neg hb, if_neg hb]; omega
  have k3 : sm5 (fun t => if t = s then (qwt d c s : Int) else 0) = (qwt d c s : Int) := by
    unfold sm5
    match s, hs with
    | 0, _ => simp
    | 1, _ => simp
    | 2, _ => simp
    | 3, _ => simp
    | 4, _ => simp
    | k + 5, h => omega
  unfold sm5 at k3 hw ⊢
  dsimp only at k3 hw ⊢
  simp only [key, k2]
  omega
theorem sm5_nn {f : Nat → Int} (h : ∀ t, t < 5 → 0 ≤ f t) : 0 ≤ sm5 f ∧ ∀ t, t < 5 → f t ≤ sm5 f := by
  have h0 := h 0 (by omega)
  have h1 := h 1 (by omega)
  have h2 := h 2 (by omega)
  have h3 := h 3 (by omega)
  have h4 := h 4 (by omega)
  unfold sm5
  refine ⟨by omega, ?_⟩
  intro t ht
  match t, ht with
  | 0, _ => omega
  | 1, _ => omega
  | 2, _ => omega
  | 3, _ => omega
  | 4, _ => omega
  | k + 5, h => omega
theorem Kc_net {d : qD} (hd : qOK d) {c : Nat} (hc : c < 2) (hgo : qgo d c) {y : Nat} (hy : qin d c y) {m : Nat} (hm : qrc d c &&& (31 - 2 ^ y) = m) : Kc (qml m).length (qsub (qen d c) m) := by
  have hyS := qin_S hd hc hy
  have hS := hd.1
  have hy5 : y < 5 := by omega
  have hr := qrc_lt d c
  have hm32 : m < 32 := by rw [← hm]; exact bi_lt_sub _ hr _ (bi_pow _ hy5)
  have hmem : ∀ t, t < 5 → (qhas m t = true ↔ qin d c t ∧ t ≠ y) := fun t ht => by
    rw [← hm, bi_sub_has _ hr y hy5 t ht, Bool.and_eq_true, Bool.not_eq_true', decide_eq_false_iff_not]
    exact and_congr (qset_has _ ht) Iff.rfl
  refine ⟨?_, ?_, ?_⟩
  · intro i j hi hj hij
    show qen d c _ _ ≤ 0
    unfold qen
    rw [if_neg (fun q => hij (qml_inj m hm32 i hi j hj q))]
    omega
  · intro i hi
    rw [qsub_row hd hc hm32 hi]
    refine (sm5_nn (fun t _ => ?_)).1
    by_cases hb : qhas m t = true
    · rw [if_pos hb]; exact Int.le_refl _
    · rw [if_neg hb]; omega
  · rintro T ⟨i, hi, hTi⟩
    apply Classical.byContradiction
    intro hno
    have hz : ∀ i, i < (qml m).length → T i → qrs (qsub (qen d c) m) i (qml m).length = 0 ∧ ∀ j, j < (qml m).length → ¬ T j → qsub (qen d c) m i j = 0 := by
      intro i hi hT
      constructor
      · apply Classical.byContradiction
        intro q
        exact hno ⟨i, hi, hT, Or.inl q⟩
      · intro j hj hTj
        apply Classical.byContradiction
        intro q
        exact hno ⟨i, hi, hT, Or.inr ⟨j, hj, hTj, q⟩⟩
    have hs5 := qml_lt m hm32 i hi
    obtain ⟨hin, hne⟩ := (hmem _ hs5).mp (qml_in m hm32 i hi)
    obtain ⟨h, hh, hret⟩ := hgo
    have hpath : qRp d c ((qml m).getD i 0) y := by
      have h1 := hret _ hin
      obtain ⟨h', hh', hy'⟩ := hy
      have : h' = h := by omega
      subst this
      rcases hy' with rfl | hy'
      · exact h1
      · exact qRp_t h1 hy'
    have hcl : ∀ x z, (∃ p, p < (qml m).length ∧ T p ∧ (qml m).getD p 0 = x) → qE d c x z → ∃ p, p < (qml m).length ∧ T p ∧ (qml m).getD p 0 = z := by
      rintro x z ⟨p, hp, hTp, rfl⟩ hE
      obtain ⟨hz1, hz2⟩ := hz p hp hTp
      have hx := (hmem _ (qml_lt m hm32 p hp)).mp (qml_in m hm32 p hp)
      have hzin := qin_E hx.1 hE
      have hz5 := hE.2.1
      have hw := qE_w hd hE
      by_cases hzm : qhas m z = true
      · obtain ⟨q1, q2⟩ := qml_of m hm32 z hz5 hzm
        refine ⟨_, q1, ?_, q2⟩
        apply Classical.byContradiction
        intro hT
        have h3 := hz2 _ q1 hT
        have h4 : qen d c ((qml m).getD p 0) z = 0 := by
          have : qsub (qen d c) m p ((qml m).idxOf z) = qen d c ((qml m).getD p 0) z := by unfold qsub; rw [q2]
          rw [← this]; exact h3
        have hpz : ¬ (qml m).getD p 0 = z := fun e => by
          have e2 : p = (qml m).idxOf z := qml_inj m hm32 p hp _ q1 (by rw [q2]; exact e)
          rw [e2] at hTp
          exact hT hTp
        unfold qen at h4
        rw [if_neg hpz] at h4
        omega
      · exfalso
        rw [qsub_row hd hc hm32 hp] at hz1
        have h5 := (sm5_nn (f := fun t => if qhas m t = true then 0 else (qw d c ((qml m).getD p 0) t : Int)) (fun t _ => by
          show 0 ≤ (if qhas m t = true then 0 else (qw d c ((qml m).getD p 0) t : Int))
          by_cases hb : qhas m t = true
          · rw [if_pos hb]; exact Int.le_refl _
          · rw [if_neg hb]; omega)).2 z hz5
        rw [hz1] at h5
        have h6 : (if qhas m z = true then 0 else (qw d c ((qml m).getD p 0) z : Int)) ≤ 0 := h5
        rw [if_neg hzm] at h6
        omega
    obtain ⟨p, hp, -, hpy⟩ := qRp_closed (fun x => ∃ p, p < (qml m).length ∧ T p ∧ (qml m).getD p 0 = x) (fun x hE => hcl _ x ⟨i, hi, hTi, rfl⟩ hE) hcl hpath
    have := (hmem _ (qml_lt m hm32 p hp)).mp (qml_in m hm32 p hp)
    exact this.2 hpy
theorem pos_net {d : qD} (hd : qOK d) {c : Nat} (hc : c < 2) (hgo : qgo d c) {y : Nat} (hy : qin d c y) {m : Nat} (hm : qrc d c &&& (31 - 2 ^ y) = m) (hn4 : (qml m).length ≤ 4) : ∀ k, k ≤ (qml m).length → 0 < qdet (qsub (qen d c) m) k := Pv_det hn4 (Kc_Pv _ _ (Kc_net hd hc hgo hy hm))
