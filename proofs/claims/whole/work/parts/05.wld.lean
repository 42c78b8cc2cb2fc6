/-! THE SMALL MACHINE'S PICTURE OF THE CELLS -/
def pm_cv (ad : Nat → Nat) : Value → Value
  | .ref a => .ref (ad a)
  | v => v
theorem pm_cv_cat (ad : Nat → Nat) (v : Value) : (pm_cv ad v).category = v.category := by cases v <;> rfl
theorem pm_cv_sum (ad : Nat → Nat) (st : List Value) : ((st.map (pm_cv ad)).map fun v => v.category).sum = (st.map fun v => v.category).sum := by
  rw [List.map_map]
  congr 1
  exact List.map_congr_left fun v _ => pm_cv_cat ad v
def pm_fv (ad : Nat → Nat) (M : pm_M) (id k : Nat) (f : Nat × Nat) : Value := if f.1 = 1 then .long (M.2 id k) else if f.1 = 2 then .ref (ad f.2) else .int (M.1 id k)
def pm_fs (ad : Nat → Nat) (M : pm_M) (id : Nat) (fks : List (Nat × Nat)) : List Value := fks.mapIdx fun k f => pm_fv ad M id k f
def pm_cn (ad : Nat → Nat) (M : pm_M) (id t : Nat) : (Nat → Int32) ⊕ (Nat → Int64) ⊕ (Nat → UInt32) ⊕ (Nat → UInt64) ⊕ (Nat → Option Nat) :=
  if t = 2 then .inr (.inl (M.2 id)) else if t = 3 then .inr (.inr (.inr (.inr fun j => if j < 4 then some (ad (pm_sheetId j)) else none))) else .inl (M.1 id)
def pm_ent (ad : Nat → Nat) (cA : Nat → ClassId) (M : pm_M) (id : Nat) : pm_Sh → va_E
  | .inl o => .inr (o.1, pm_fs ad M id o.2)
  | .inr a => .inl (cA a.1, a.2, pm_cn ad M id a.1)
def pm_W (ad : Nat → Nat) (cA : Nat → ClassId) (M : pm_M) : va_W := (List.range pm_N).map fun i => (ad i, pm_ent ad cA M i (pm_SH.getD i (.inr (0, 0))))
def pm_ty (cA : Nat → ClassId) : List (ClassId × FieldType) := [(cA 0, .int), (cA 1, .boolean), (cA 2, .long), (cA 3, .object "PalletRounds$Sheet")]
theorem pm_SH_len : pm_SH.length = pm_N := by decide +kernel
theorem pm_sh_lt {id : Nat} {sh : pm_Sh} (h : pm_sh id = some sh) : id < pm_N := by
  have := (List.getElem?_eq_some_iff.mp h).1
  rw [pm_SH_len] at this
  exact this
theorem pm_W_get {ad : Nat → Nat} {cA : Nat → ClassId} {M : pm_M} {id : Nat} {sh : pm_Sh} (h : pm_sh id = some sh) : (pm_W ad cA M)[id]? = some (ad id, pm_ent ad cA M id sh) := by
  have hl := pm_sh_lt h
  unfold pm_W
  rw [List.getElem?_map, List.getElem?_range hl]
  simp only [Option.map_some]
  rw [List.getD_eq_getElem?_getD, show pm_SH[id]? = some sh from h]
  rfl
theorem pm_W_at {ad : Nat → Nat} {cA : Nat → ClassId} {M : pm_M} {k : Nat} {q : Nat × va_E} (h : (pm_W ad cA M)[k]? = some q) : k < pm_N ∧ q.1 = ad k := by
  unfold pm_W at h
  rw [List.getElem?_map] at h
  cases hr : (List.range pm_N)[k]? with
  | none => rw [hr] at h; cases h
  | some i =>
    rw [hr] at h
    obtain ⟨h1, h2⟩ := List.getElem?_eq_some_iff.mp hr
    rw [List.length_range] at h1
    rw [List.getElem_range] at h2
    subst h2
    cases h
    exact ⟨h1, rfl⟩
theorem pm_W_in {ad : Nat → Nat} {cA : Nat → ClassId} (M : pm_M) {k : Nat} (h : k < pm_N) : ∃ e, (pm_W ad cA M)[k]? = some (ad k, e) := by
  unfold pm_W
  rw [List.getElem?_map, List.getElem?_range h]
  exact ⟨_, rfl⟩
theorem pm_fv_congr {ad : Nat → Nat} {M M' : pm_M} {id : Nat} (h1 : M'.1 id = M.1 id) (h2 : M'.2 id = M.2 id) (k : Nat) (f : Nat × Nat) : pm_fv ad M' id k f = pm_fv ad M id k f := by
  unfold pm_fv; rw [h1, h2]
theorem pm_ent_congr {ad : Nat → Nat} {cA : Nat → ClassId} {M M' : pm_M} {id : Nat} (h1 : M'.1 id = M.1 id) (h2 : M'.2 id = M.2 id) (sh : pm_Sh) : pm_ent ad cA M' id sh = pm_ent ad cA M id sh := by
  cases sh with
  | inl o => simp only [pm_ent, pm_fs, pm_fv_congr h1 h2]
  | inr a => simp only [pm_ent, pm_cn, h1, h2]
theorem pm_W_set {ad : Nat → Nat} {cA : Nat → ClassId} {M M' : pm_M} {id : Nat} {sh : pm_Sh} {x : va_E} (h : pm_sh id = some sh) (e : pm_ent ad cA M' id sh = x) (ho : ∀ i, i ≠ id → M'.1 i = M.1 i ∧ M'.2 i = M.2 i) :
    (pm_W ad cA M).set id (ad id, x) = pm_W ad cA M' := by
  apply List.ext_getElem?
  intro k
  by_cases hk : k = id
  · subst hk
    rw [List.getElem?_set_self (by rw [pm_W, List.length_map, List.length_range]; exact pm_sh_lt h), pm_W_get h, e]
  · rw [List.getElem?_set_ne (fun q => hk q.symm)]
    unfold pm_W
    rw [List.getElem?_map, List.getElem?_map]
    by_cases hk2 : k < pm_N
    · rw [List.getElem?_range hk2]
      simp only [Option.map_some]
      rw [pm_ent_congr (ho k hk).1 (ho k hk).2]
    · rw [List.getElem?_eq_none (by rw [List.length_range]; omega)]
      rfl
theorem pm_D_of {A : Nat → Prop} {ad : Nat → Nat} {cA : Nat → ClassId} {M : pm_M} (M' : pm_M) (h : va_D A (pm_W ad cA M)) : va_D A (pm_W ad cA M') := by
  refine ⟨fun i j p q hi hj hpq => ?_, fun k q hk => ?_⟩
  · obtain ⟨hi1, hi2⟩ := pm_W_at hi
    obtain ⟨hj1, hj2⟩ := pm_W_at hj
    obtain ⟨e1, h1⟩ := pm_W_in (ad := ad) (cA := cA) M hi1
    obtain ⟨e2, h2⟩ := pm_W_in (ad := ad) (cA := cA) M hj1
    exact h.1 i j _ _ h1 h2 (by show ad i = ad j; rw [← hi2, ← hj2]; exact hpq)
  · obtain ⟨hk1, hk2⟩ := pm_W_at hk
    obtain ⟨e1, h1⟩ := pm_W_in (ad := ad) (cA := cA) M hk1
    rw [hk2]
    exact h.2 k _ h1
theorem pm_A_of {ad : Nat → Nat} {cA : Nat → ClassId} (M M' : pm_M) {sz q : Nat} (h : va_A (pm_W ad cA M) sz q) : va_A (pm_W ad cA M') sz q := by
  rcases h with ⟨k, e, h⟩ | h
  · obtain ⟨hk1, hk2⟩ := pm_W_at h
    obtain ⟨e1, h1⟩ := pm_W_in (ad := ad) (cA := cA) M' hk1
    exact Or.inl ⟨k, e1, by rw [show q = ad k from hk2]; exact h1⟩
  · exact Or.inr h
theorem pm_fs_get {ad : Nat → Nat} {M : pm_M} {id k : Nat} {fks : List (Nat × Nat)} {f : Nat × Nat} (h : fks[k]? = some f) : (pm_fs ad M id fks)[k]? = some (pm_fv ad M id k f) := by
  unfold pm_fs
  rw [List.getElem?_mapIdx, h]
  rfl
theorem pm_fs_len {ad : Nat → Nat} {M : pm_M} {id : Nat} {fks : List (Nat × Nat)} : (pm_fs ad M id fks).length = fks.length := by
  unfold pm_fs
  rw [List.length_mapIdx]
theorem pm_fs_set {ad : Nat → Nat} {M M' : pm_M} {id k : Nat} {fks : List (Nat × Nat)} {f : Nat × Nat} {v : Value} (h : fks[k]? = some f) (hv : pm_fv ad M' id k f = v) (ho : ∀ (j : Nat) (g : Nat × Nat), j ≠ k → fks[j]? = some g → pm_fv ad M' id j g = pm_fv ad M id j g) :
    (pm_fs ad M id fks).set k v = pm_fs ad M' id fks := by
  apply List.ext_getElem?
  intro j
  by_cases hj : j = k
  · subst hj
    rw [List.getElem?_set_self (by rw [pm_fs_len]; exact (List.getElem?_eq_some_iff.mp h).1), pm_fs_get h, hv]
  · rw [List.getElem?_set_ne (fun q => hj q.symm)]
    unfold pm_fs
    rw [List.getElem?_mapIdx, List.getElem?_mapIdx]
    cases hg : fks[j]? with
    | none => rfl
    | some g => simp only [Option.map_some, ho j g hj hg]
/-! locals -/
def pm_hl (ad : Nat → Nat) (nL : Nat) (al : pm_L) (ls : Array Slot) : Prop := ls.size = nL ∧ lv_wf ls ∧ ∀ (i : Nat) (v : Value), al.getD i none = some v → ls[i]? = some (.val (pm_cv ad v))
def pm_asc (ad : Nat → Nat) (al : pm_L) : List (Nat × Value) := (List.range al.length).filterMap fun i => (al.getD i none).map fun v => (i, pm_cv ad v)
theorem pm_getD_lt {al : pm_L} {i : Nat} {v : Value} (h : al.getD i none = some v) : i < al.length := by
  by_cases hi : i < al.length
  · exact hi
  · rw [List.getD_eq_getElem?_getD, List.getElem?_eq_none (by omega)] at h
    cases h
theorem pm_asc_in {ad : Nat → Nat} {al : pm_L} {i : Nat} {v : Value} (h : al.getD i none = some v) : (i, pm_cv ad v) ∈ pm_asc ad al := by
  refine List.mem_filterMap.mpr ⟨i, List.mem_range.mpr (pm_getD_lt h), ?_⟩
  rw [h]
  rfl
theorem pm_asc_of {ad : Nat → Nat} {al : pm_L} {q : Nat × Value} (h : q ∈ pm_asc ad al) : ∃ v, al.getD q.1 none = some v ∧ q.2 = pm_cv ad v := by
  obtain ⟨i, -, hi⟩ := List.mem_filterMap.mp h
  cases hv : al.getD i none with
  | none => rw [hv] at hi; cases hi
  | some v =>
    rw [hv] at hi
    cases hi
    exact ⟨v, hv, rfl⟩
theorem pm_hl_has {ad : Nat → Nat} {nL : Nat} {al : pm_L} {ls : Array Slot} (h : pm_hl ad nL al ls) : lv_has ls nL (pm_asc ad al) := by
  refine ⟨h.1, h.2.1, fun q hq => ?_⟩
  obtain ⟨v, h1, h2⟩ := pm_asc_of hq
  rw [h2]
  exact h.2.2 q.1 v h1
theorem pm_getD_set {al : pm_L} {i j : Nat} {o : Option Value} : (al.set i o).getD j none = if j = i then (if i < al.length then o else none) else al.getD j none := by
  rw [List.getD_eq_getElem?_getD, List.getD_eq_getElem?_getD, List.getElem?_set]
  by_cases hj : j = i
  · subst hj
    by_cases hl : j < al.length <;> simp [hl]
  · have : ¬ i = j := fun q => hj q.symm
    simp [hj, this]
theorem pm_clr_get {al : pm_L} {i j : Nat} {w : Value} (h : (pm_clr al i).getD j none = some w) : al.getD j none = some w ∧ ¬ (j + 1 = i ∧ w.category = 2) := by
  unfold pm_clr at h
  split at h
  · exact ⟨h, fun q => by omega⟩
  · rename_i k
    split at h
    · rename_i v hv
      split at h
      · rw [pm_getD_set] at h
        by_cases hj : j = k
        · rw [if_pos hj] at h
          split at h <;> cases h
        · rw [if_neg hj] at h
          exact ⟨h, fun q => hj (by omega)⟩
      · rename_i hc
        refine ⟨h, fun q => ?_⟩
        have hjk : j = k := by omega
        subst hjk
        rw [hv] at h
        cases h
        exact hc q.2
    · rename_i hv
      refine ⟨h, fun q => ?_⟩
      have hjk : j = k := by omega
      subst hjk
      rw [hv] at h
      cases h
theorem pm_hl_st1 {ad : Nat → Nat} {nL : Nat} {al : pm_L} {ls' : Array Slot} {i : Nat} {v : Value} (h : lv_has ls' nL ((i, pm_cv ad v) :: (pm_asc ad al).filter (fun q => !(q.1 == i) && !(q.1 + 1 == i && q.2.category == 2)))) : pm_hl ad nL (pm_st1 al i v) ls' := by
  refine ⟨h.1, h.2.1, fun j w hw => ?_⟩
  unfold pm_st1 at hw
  rw [pm_getD_set] at hw
  by_cases hj : j = i
  · rw [if_pos hj] at hw
    split at hw
    · cases hw
      rw [hj]
      exact h.2.2 (i, pm_cv ad v) List.mem_cons_self
    · cases hw
  · rw [if_neg hj] at hw
    obtain ⟨h1, h2⟩ := pm_clr_get hw
    refine h.2.2 (j, pm_cv ad w) (List.mem_cons_of_mem _ (List.mem_filter.mpr ⟨pm_asc_in h1, ?_⟩))
    have e1 : (j == i) = false := by simp [hj]
    have e2 : (j + 1 == i && (pm_cv ad w).category == 2) = false := by
      rw [pm_cv_cat]
      cases hb : (j + 1 == i && w.category == 2) with
      | false => rfl
      | true => simp at hb; exact absurd hb h2
    simp only [e1, e2]
    rfl
theorem pm_hl_st2 {ad : Nat → Nat} {nL : Nat} {al : pm_L} {ls' : Array Slot} {i : Nat} {v : Value} (h : lv_has ls' nL ((i, pm_cv ad v) :: (pm_asc ad al).filter (fun q => !(q.1 == i) && (!(q.1 == i + 1) && !(q.1 + 1 == i && q.2.category == 2))))) : pm_hl ad nL (pm_st2 al i v) ls' := by
  refine ⟨h.1, h.2.1, fun j w hw => ?_⟩
  unfold pm_st2 at hw
  rw [pm_getD_set] at hw
  by_cases hj1 : j = i + 1
  · rw [if_pos hj1] at hw
    split at hw <;> cases hw
  · rw [if_neg hj1, pm_getD_set] at hw
    by_cases hj : j = i
    · rw [if_pos hj] at hw
      split at hw
      · cases hw
        rw [hj]
        exact h.2.2 (i, pm_cv ad v) List.mem_cons_self
      · cases hw
    · rw [if_neg hj] at hw
      obtain ⟨h1, h2⟩ := pm_clr_get hw
      refine h.2.2 (j, pm_cv ad w) (List.mem_cons_of_mem _ (List.mem_filter.mpr ⟨pm_asc_in h1, ?_⟩))
      have e0 : (j == i) = false := by simp [hj]
      have e1 : (j == i + 1) = false := by simp [hj1]
      have e2 : (j + 1 == i && (pm_cv ad w).category == 2) = false := by
        rw [pm_cv_cat]
        cases hb : (j + 1 == i && w.category == 2) with
        | false => rfl
        | true => simp at hb; exact absurd hb h2
      simp only [e0, e1, e2]
      rfl
theorem pm_en_args (ad : Nat → Nat) : ∀ (as : List Value) (k i : Nat) (v : Value), (as.flatMap fun v => if v.category = 2 then [some v, none] else [some v]).getD i none = some v → (k + i, pm_cv ad v) ∈ lv_args k (as.map (pm_cv ad))
  | [], k, i, v, h => by simp at h
  | a :: as, k, i, v, h => by
    simp only [List.map_cons, lv_args, pm_cv_cat]
    by_cases hc : a.category = 2
    · simp only [List.flatMap_cons, hc, if_true] at h
      match i, h with
      | 0, h => simp at h; subst h; simp
      | 1, h => simp at h
      | i + 2, h =>
        have h' : (as.flatMap fun v => if v.category = 2 then [some v, none] else [some v]).getD i none = some v := by simpa using h
        have := pm_en_args ad as (k + 2) i v h'
        simp only [hc, if_true]
        refine List.mem_cons_of_mem _ ?_
        rw [show k + (i + 2) = k + 2 + i by omega]
        exact this
    · simp only [List.flatMap_cons, hc, if_false] at h
      match i, h with
      | 0, h => simp at h; subst h; simp
      | i + 1, h =>
        have h' : (as.flatMap fun v => if v.category = 2 then [some v, none] else [some v]).getD i none = some v := by simpa using h
        have := pm_en_args ad as (k + 1) i v h'
        simp only [hc, if_false]
        refine List.mem_cons_of_mem _ ?_
        rw [show k + (i + 1) = k + 1 + i by omega]
        exact this
theorem pm_en_len (ad : Nat → Nat) : ∀ (as : List Value), (lg_sl (as.map (pm_cv ad))).length = (as.flatMap fun v => if v.category = 2 then [some v, (none : Option Value)] else [some v]).length
  | [] => rfl
  | a :: as => by
    have ih := pm_en_len ad as
    unfold lg_sl at ih ⊢
    simp only [List.map_cons, List.flatMap_cons, List.length_append, pm_cv_cat, ih]
    by_cases hc : a.category = 2 <;> simp [hc]
theorem pm_hl_en {ad : Nat → Nat} {n : Nat} {as : List Value} {ls : Array Slot} (h : lv_has ls n (lv_args 0 (as.map (pm_cv ad)))) : pm_hl ad n (pm_en n as) ls := by
  refine ⟨h.1, h.2.1, fun i v hv => ?_⟩
  have h2 : (as.flatMap fun v => if v.category = 2 then [some v, none] else [some v]).getD i none = some v := by
    unfold pm_en at hv
    rw [List.getD_eq_getElem?_getD] at hv ⊢
    rw [List.getElem?_append] at hv
    split at hv
    · exact hv
    · exfalso
      rw [List.getElem?_replicate] at hv
      split at hv <;> simp at hv
  have := pm_en_args ad as 0 i v h2
  rw [Nat.zero_add] at this
  exact h.2.2 _ this
