/-! THE TAPE, OBEYED: all of it, each side -/
def sclb (b : Nat → Nat) (d : qD) (p : Nat) : Int32 × Option qD := scl d (b p) (nI (b (p + 1) - 48)) (nI (b (p + 2) - 48)) (nI (b (p + 3) - 48)) (nI (b (p + 4) - 48))
def exs (b : Nat → Nat) (d : qD) (p : Nat) : qD := match (sclb b d p).2 with
  | none => d
  | some d' => d'
def exl (b : Nat → Nat) : List Nat → qD → Nat → Nat × qD
  | [], d, m => (m, d)
  | p :: l, d, m => exl b l (exs b d p) (if (sclb b d p).1 = 0 then m else m + 1)
def ext (b : Nat → Nat) : List Nat → qD → Bool
  | [], _ => false
  | p :: l, d => (sclb b d p).2.isSome || ext b l (exs b d p)
def cmC (τ : Bool) (d : qD) (M : pm_M) (d' : qD) (M' : pm_M) : Prop := (τ = false ∧ d' = d ∧ M' = M) ∨ (τ = true ∧ qOK d' ∧ qCt d' M M')
def cmR (τ : Bool) (d : qD) (M : pm_M) (d' : qD) (M' : pm_M) : Prop := (τ = false ∧ d' = d ∧ M' = M) ∨ (τ = true ∧ qRt d' M M')
theorem qCt_t {d1 d2 : qD} {M M1 M2 : pm_M} (h1 : qCt d1 M M1) (h2 : qCt d2 M1 M2) : qCt d2 M M2 := by
  obtain ⟨a0, a1, a2, a3, a4, a5, a6, a7, a8, a9, a10, a11⟩ := h1
  obtain ⟨c0, c1, c2, c3, c4, c5, c6, c7, c8, c9, c10, c11⟩ := h2
  exact ⟨c0, fun b hb => by rw [c1 b hb, a1 b hb], fun b hb => by rw [c2 b hb, a2 b hb], c3, c4, c5, c6, c7, c8, fun k k1 k2 k3 => by rw [c9 k k1 k2 k3, a9 k k1 k2 k3], c10, c11⟩
theorem qRt_t {d1 d2 : qD} {M M1 M2 : pm_M} (h1 : qRt d1 M M1) (h2 : qRt d2 M1 M2) : qRt d2 M M2 := by
  obtain ⟨a0, a1, a2, a3, a4, a5, a6, a7⟩ := h1
  obtain ⟨c0, c1, c2, c3, c4, c5, c6, c7⟩ := h2
  exact ⟨c0, fun b hb => by rw [c1 b hb, a1 b hb], by rw [c2, a2], c3, c4, fun k k1 k2 k3 => by rw [c5 k k1 k2 k3, a5 k k1 k2 k3], c6, c7⟩
theorem cmC_t {τ σ : Bool} {d d1 d2 : qD} {M M1 M2 : pm_M} (h1 : cmC τ d M d1 M1) (h2 : cmC σ d1 M1 d2 M2) : cmC (τ || σ) d M d2 M2 := by
  rcases h1 with ⟨rfl, rfl, rfl⟩ | ⟨rfl, a, b⟩
  · exact h2
  · rcases h2 with ⟨rfl, rfl, rfl⟩ | ⟨rfl, c, e⟩
    · exact Or.inr ⟨rfl, a, b⟩
    · exact Or.inr ⟨rfl, c, qCt_t b e⟩
theorem cmR_t {τ σ : Bool} {d d1 d2 : qD} {M M1 M2 : pm_M} (h1 : cmR τ d M d1 M1) (h2 : cmR σ d1 M1 d2 M2) : cmR (τ || σ) d M d2 M2 := by
  rcases h1 with ⟨rfl, rfl, rfl⟩ | ⟨rfl, b⟩
  · exact h2
  · rcases h2 with ⟨rfl, rfl, rfl⟩ | ⟨rfl, e⟩
    · exact Or.inr ⟨rfl, b⟩
    · exact Or.inr ⟨rfl, qRt_t b e⟩
theorem C_obey_m {d : qD} {M : pm_M} {n p : Nat} {b : Nat → Nat} (hd : qOK d) (hC : qC M d) (h : tpC M n b) (hk : clf b n p = none) : ∃ M', sC_obey (nI p) M = some ((sclb b d p).1, M') ∧ cmC (sclb b d p).2.isSome d M (exs b d p) M' ∧ qOK (exs b d p) ∧ qC M' (exs b d p) ∧ tpC M' n b := by
  obtain ⟨k1, k2, k3, k4⟩ := clf_none hk
  obtain ⟨M', e, k⟩ := C_obey_s hd hC h k1 k2 k4
  refine ⟨M', e, ?_⟩
  unfold exs
  have k' : match (sclb b d p).2 with | none => M' = M | some d' => qOK d' ∧ qCt d' M M' := k
  cases e2 : (sclb b d p).2 with
  | none =>
    rw [e2] at k'
    have k'' : M' = M := k'
    subst k''
    exact ⟨Or.inl ⟨rfl, rfl, rfl⟩, hd, hC, h⟩
  | some d' =>
    rw [e2] at k'
    have k'' : qOK d' ∧ qCt d' M M' := k'
    exact ⟨Or.inr ⟨rfl, k''⟩, k''.1, k''.2.1, h.1, by rw [k''.2.2.1 37 (by decide)]; exact h.2.1, fun x hx => by rw [k''.2.2.1 38 (by decide)]; exact h.2.2 x hx⟩
def txB : (Int32 → Int32 → Int32 → pm_M → Option (Int32 × pm_M)) → Int32 → Int32 → Int32 → pm_M → Option (Int32 × pm_M) := (fun (g3 : Int32 → Int32 → Int32 → pm_M → Option (Int32 × pm_M)) x5 x6 x7 M4 => pm_jn (fun (M9 : pm_M) => pm_lt (pm_sI M9 37 0 (0 : Int32)) fun M10 => some (x5, M10)) fun (j8 : pm_M → Option (Int32 × pm_M)) => if (60 : Int32) ≤ x7 then (j8 M4) else (if (M4.1 37 0) ≤ x6 then (j8 M4) else (pm_bd (sC_obey x6 M4) fun v12 M11 => pm_jn (fun (x15 : Int32) (M14 : pm_M) => pm_bd (sTape_byteAt x6 M14) fun v17 M16 => pm_bd (sTape_clauseSize v17 M16) fun v19 M18 => pm_lt ((x6 + (v19 + (1 : Int32)))) fun x20 => pm_lt ((x7 + (1 : Int32))) fun x21 => g3 x15 x20 x21 M18) fun (j13 : Int32 → pm_M → Option (Int32 × pm_M)) => if v12 = 0 then (j13 x5 M11) else (pm_lt ((x5 + (1 : Int32))) fun x22 => j13 x22 M11))))
theorem tx_loop (M : pm_M) : sC_text M = pm_bd (sTape_faultPlace M) fun v2 M1 => if v2 = (-1 : Int32) then (pm_loop (fun _ _ _ _ => none) txB 1000000 (0 : Int32) (0 : Int32) (0 : Int32) M1) else (pm_lt (pm_sI M1 37 0 (0 : Int32)) fun M23 => some (((-100 : Int32) - v2), M23)) := rfl
theorem txB_end {M : pm_M} {n m p i : Nat} {b : Nat → Nat} (h : tpC M n b) (hp : n ≤ p) (hp2 : p ≤ 100) (hi : i < 60) (g : Int32 → Int32 → Int32 → pm_M → Option (Int32 × pm_M)) : txB g (nI m) (nI p) (nI i) M = some (nI m, pm_sI M 37 0 0) := by
  have h60 := h.1
  unfold txB
  rw [q_jn, if_neg (by rw [show (60 : Int32) = nI 60 from rfl, nI_le_iff (by omega) (by omega)]; omega), h.2.1, if_pos ((nI_le_iff (by omega) (by omega)).mpr hp)]
  rfl
theorem txB_in {d : qD} {M : pm_M} {n m p i : Nat} {b : Nat → Nat} (hd : qOK d) (hC : qC M d) (h : tpC M n b) (hk : clf b n p = none) (hi : i < 60) (g : Int32 → Int32 → Int32 → pm_M → Option (Int32 × pm_M)) : ∃ M', txB g (nI m) (nI p) (nI i) M = g (nI (if (sclb b d p).1 = 0 then m else m + 1)) (nI (p + tsz (b p) + 1)) (nI (i + 1)) M' ∧ cmC (sclb b d p).2.isSome d M (exs b d p) M' ∧ qOK (exs b d p) ∧ qC M' (exs b d p) ∧ tpC M' n b := by
  have h60 := h.1
  obtain ⟨k1, k2, k3, k4⟩ := clf_none hk
  obtain ⟨M', e, c1, c2, c3, c4⟩ := C_obey_m hd hC h hk
  refine ⟨M', ?_, c1, c2, c3, c4⟩
  obtain ⟨v, ev, hv⟩ := C_byte c4 (show p ≤ 100 by omega)
  have hv' := hv k1
  have fin : ∀ m', (pm_bd (sTape_byteAt (nI p) M') fun v17 M16 => pm_bd (sTape_clauseSize v17 M16) fun v19 M18 => pm_lt ((nI p + (v19 + (1 : Int32)))) fun x20 => pm_lt ((nI i + (1 : Int32))) fun x21 => g m' x20 x21 M18) = g m' (nI (p + tsz (b p) + 1)) (nI (i + 1)) M' := fun m' => by
    rw [ev, q_bd, hv', C_size (h.2.2 p k1).1, q_bd, ← nI_succ, qI_add, q_lt, q_lt, ← nI_succ]
    rfl
  unfold txB
  rw [q_jn, if_neg (by rw [show (60 : Int32) = nI 60 from rfl, nI_le_iff (by omega) (by omega)]; omega), h.2.1, if_neg (by rw [nI_le_iff (by omega) (by omega)]; omega), e, q_bd, q_jn]
  by_cases z : (sclb b d p).1 = 0
  · rw [if_pos z, if_pos z]
    exact fin _
  · rw [if_neg z, if_neg z, q_lt, show nI (m + 1) = nI m + 1 from nI_succ m]
    exact fin _
theorem tfa_none {b : Nat → Nat} {n f p : Nat} (h : tfa b n (f + 1) p = none) : clf b n p = none ∧ (n ≤ p + tsz (b p) ∨ tfa b n f (p + tsz (b p) + 1) = none) := by
  rw [tfa_s] at h
  cases e : clf b n p with
  | some q =>
    rw [e] at h
    cases h
  | none =>
    refine ⟨rfl, ?_⟩
    rw [e] at h
    by_cases z : n ≤ p + tsz (b p)
    · exact Or.inl z
    · right
      have h' : (if n ≤ p + tsz (b p) then none else if b (p + tsz (b p)) = 59 then tfa b n f (p + tsz (b p) + 1) else some (p + tsz (b p))) = none := h
      rw [if_neg z] at h'
      by_cases w : b (p + tsz (b p)) = 59
      · rw [if_pos w] at h'
        exact h'
      · rw [if_neg w] at h'
        cases h'
theorem C_exec {n : Nat} {b : Nat → Nat} : ∀ (f p m i k : Nat) (d : qD) (M : pm_M), qOK d → qC M d → tpC M n b → tfa b n f p = none → i ≤ p → f < k → ∃ M', pm_loop (fun _ _ _ _ => none) txB k (nI m) (nI p) (nI i) M = some (nI (exl b (tst b n f p) d m).1, pm_sI M' 37 0 0) ∧ cmC (ext b (tst b n f p) d) d M (exl b (tst b n f p) d m).2 M' ∧ qOK (exl b (tst b n f p) d m).2 ∧ qC M' (exl b (tst b n f p) d m).2
  | 0, p, m, i, k, d, M, _, _, _, h, _, _ => by cases h
  | f + 1, p, m, i, 0, d, M, _, _, _, _, _, hk => by omega
  | f + 1, p, m, i, 1, d, M, _, _, _, _, _, hk => by omega
  | f + 1, p, m, i, k + 2, d, M, hd, hC, h, hf, hi, hk => by
    have h60 := h.1
    obtain ⟨y1, y2⟩ := tfa_none hf
    obtain ⟨k1, k2, k3, k4⟩ := clf_none y1
    have t3 := tsz_2 k2
    obtain ⟨M1, e1, c1, c2, c3, c4⟩ := txB_in (m := m) (i := i) hd hC h y1 (by omega) (pm_loop (fun _ _ _ _ => none) txB (k + 1))
    rw [q_lp, e1]
    by_cases z : n ≤ p + tsz (b p)
    · have et : tst b n (f + 1) p = [p] := by unfold tst; rw [if_pos z]
      rw [et, q_lp, txB_end c4 (by omega) (by omega) (by omega)]
      refine ⟨M1, rfl, ?_, c2, c3⟩
      show cmC ((sclb b d p).2.isSome || false) d M (exs b d p) M1
      rw [Bool.or_false]
      exact c1
    · have et : tst b n (f + 1) p = p :: tst b n f (p + tsz (b p) + 1) := by show (if _ then _ else _) = _; rw [if_neg z]
      have hf' : tfa b n f (p + tsz (b p) + 1) = none := by
        rcases y2 with q | q
        · exact absurd q z
        · exact q
      obtain ⟨M', e2, d1, d2, d3⟩ := C_exec f (p + tsz (b p) + 1) (if (sclb b d p).1 = 0 then m else m + 1) (i + 1) (k + 1) (exs b d p) M1 c2 c3 c4 hf' (by omega) (by omega)
      rw [et]
      exact ⟨M', e2, cmC_t c1 d1, d2, d3⟩
theorem R_exec {n : Nat} {b : Nat → Nat} {l : List Nat} {d : qD} {M : pm_M} (hd : qOK d) (hR : qR M d) (hl : l.length ≤ 16) (h11 : M.1 49 11 = nI l.length) (hb : ∀ k, k < n → b k < 256) (hr : ∀ i, i < l.length → l.getD i 0 + tsz (b (l.getD i 0)) ≤ n ∧ tsz (b (l.getD i 0)) ≠ 0 ∧ rrc M b i (l.getD i 0)) (hok : ∀ (d0 : qD) (p : Nat), qOK d0 → qOK (exs b d0 p)) : ∃ M', pm_loop (fun _ _ _ => none) (fun (g11 : Int32 → Int32 → pm_M → Option (Int32 × pm_M)) x13 x14 M12 => if (M12.1 49 11) ≤ x14 then (some (x13, M12)) else (pm_bd (sR_isDone x14 M12) fun v16 M15 => if v16 = 0 then (pm_lt ((x14 + (1 : Int32))) fun x17 => g11 x13 x17 M15) else (pm_lt ((x13 + (1 : Int32))) fun x18 => pm_lt ((x14 + (1 : Int32))) fun x19 => g11 x18 x19 M15))) 1000000 (0 : Int32) (0 : Int32) M = some (nI (exl b l d 0).1, M') ∧ cmR (ext b l d) d M (exl b l d 0).2 M' := by
  refine q_fz (fun r => ∃ M', r = some (nI (exl b l d 0).1, M') ∧ cmR (ext b l d) d M (exl b l d 0).2 M') (fun i (a : (Nat × qD) × pm_M) (g : Int32 → Int32 → pm_M → Option (Int32 × pm_M)) => g (nI a.1.1) (nI i) a.2) (fun i a => (∃ τ, cmR τ d M a.1.2 a.2 ∧ (τ || ext b (l.drop i) a.1.2) = ext b l d) ∧ qOK a.1.2 ∧ qR a.2 a.1.2 ∧ exl b (l.drop i) a.1.2 a.1.1 = exl b l d 0 ∧ a.2.1 49 11 = nI l.length ∧ a.2.1 57 = M.1 57 ∧ a.2.1 58 = M.1 58) l.length ?_ ?_ (n := 1000000) (a := ((0, d), M)) (by omega) ⟨⟨false, Or.inl ⟨rfl, rfl, rfl⟩, rfl⟩, hd, hR, rfl, h11, rfl, rfl⟩
  · rintro i ⟨⟨m, d0⟩, a⟩ hi ⟨⟨τ, a1, aτ⟩, a2, a3, a4, a5, a6, a7⟩ g
    obtain ⟨r1, r2, r3⟩ := hr i hi
    have a2' : qOK d0 := a2
    have t3 := tsz_2 r2
    obtain ⟨M', e, k⟩ := R_done_s a2' a3 (show i < 24 by omega) (hb _ (by omega)) r2 (show rrc a b i (l.getD i 0) from ⟨by rw [a6]; exact r3.1, fun j hj => by rw [a7]; exact r3.2 j hj⟩)
    have a4' : exl b (l.drop i) d0 m = exl b l d 0 := a4
    have hdr : l.drop i = l.getD i 0 :: l.drop (i + 1) := by
      rw [List.drop_eq_getElem_cons hi, List.getD_eq_getElem?_getD, List.getElem?_eq_getElem hi]
      rfl
    rw [hdr] at a4'
    have aτ' : (τ || ext b (l.drop i) d0) = ext b l d := aτ
    rw [hdr] at aτ'
    have aτ'' : (τ || ((sclb b d0 (l.getD i 0)).2.isSome || ext b (l.drop (i + 1)) (exs b d0 (l.getD i 0)))) = ext b l d := aτ'
    have k' : match (sclb b d0 (l.getD i 0)).2 with | none => M' = a | some d' => qRt d' a M' := k
    have hk : cmR (sclb b d0 (l.getD i 0)).2.isSome d0 a (exs b d0 (l.getD i 0)) M' ∧ qR M' (exs b d0 (l.getD i 0)) ∧ M'.1 49 11 = a.1 49 11 ∧ M'.1 57 = a.1 57 ∧ M'.1 58 = a.1 58 := by
      unfold exs
      cases e2 : (sclb b d0 (l.getD i 0)).2 with
      | none =>
        rw [e2] at k'
        have k'' : M' = a := k'
        subst k''
        exact ⟨Or.inl ⟨rfl, rfl, rfl⟩, a3, rfl, rfl, rfl⟩
      | some d' =>
        rw [e2] at k'
        have k'' : qRt d' a M' := k'
        exact ⟨Or.inr ⟨rfl, k''⟩, k''.1, k''.2.2.2.2.2.1 11 (by decide) (by decide) (by decide), k''.2.1 57 (by decide), k''.2.1 58 (by decide)⟩
    obtain ⟨u1, u2, u3, u4, u5⟩ := hk
    have a5' : a.1 49 11 = nI l.length := a5
    refine ⟨((if (sclb b d0 (l.getD i 0)).1 = 0 then m else m + 1, exs b d0 (l.getD i 0)), M'), ⟨⟨_, cmR_t a1 u1, by rw [Bool.or_assoc]; exact aτ''⟩, hok d0 _ a2', u2, a4', u3.trans a5', u4.trans a6, u5.trans a7⟩, ?_⟩
    show (if (a.1 49 11) ≤ nI i then _ else _) = _
    rw [a5', if_neg (by rw [nI_le_iff (by omega) (by omega)]; omega), e, q_bd]
    by_cases z : (sclb b d0 (l.getD i 0)).1 = 0
    · rw [if_pos (show (scl d0 _ _ _ _ _).1 = 0 from z), if_pos z, q_lt, ← nI_succ]
    · rw [if_neg (show ¬ (scl d0 _ _ _ _ _).1 = 0 from z), if_neg z, q_lt, q_lt, ← nI_succ, ← nI_succ]
  · rintro ⟨⟨m, d0⟩, a⟩ ⟨⟨τ, a1, aτ⟩, a2, a3, a4, a5, a6, a7⟩ g
    have a4' : exl b (l.drop l.length) d0 m = exl b l d 0 := a4
    rw [List.drop_length] at a4'
    have a5' : a.1 49 11 = nI l.length := a5
    refine ⟨a, ?_, ?_⟩
    · show (if (a.1 49 11) ≤ nI l.length then some (nI m, a) else _) = _
      rw [a5', if_pos (Int32.le_refl _), ← a4']
      rfl
    · have aτ' : (τ || ext b (l.drop l.length) d0) = ext b l d := aτ
      rw [List.drop_length] at aτ'
      have aτ'' : (τ || false) = ext b l d := aτ'
      rw [Bool.or_false] at aτ''
      rw [← a4', ← aτ'']
      exact a1
