/-! FROM THE SMALL MACHINE TO FUNCTIONS: 'sh = some r' says what the walk from σ comes to -/
def pm_lt {α β : Type} (e : α) (f : α → β) : β := f e
def pm_jn {β : Type} {ρ : Type} (J : β) (B : β → Option ρ) : Option ρ := B J
def pm_loop {β : Type} (bot : β) (F : β → β) : Nat → β
  | 0 => bot
  | n + 1 => F (pm_loop bot F n)
def pm_bd {α ρ : Type} (x : Option (α × pm_M)) (f : α → pm_M → Option ρ) : Option ρ := match x with
  | some (a, M) => f a M
  | none => none
def pm_bv {ρ : Type} (x : Option pm_M) (f : pm_M → Option ρ) : Option ρ := match x with
  | some M => f M
  | none => none
def pm_Fin (X : pm_X) (C : pm_CR) (T : pm_Tb) (ret : Option FieldType) (σ : pm_St) (v : Option Value) (M : pm_M) : Prop := ∃ n σ', pm_Rch X C T n σ σ' ∧ pm_Ret T ret σ' v M
def pm_Im {ρ : Type} (X : pm_X) (C : pm_CR) (T : pm_Tb) (ret : Option FieldType) (rt : ρ → Option Value × pm_M) (sh : Option ρ) (σ : pm_St) : Prop := ∀ r, sh = some r → pm_Fin X C T ret σ (rt r).1 (rt r).2
def pm_rI (r : Int32 × pm_M) : Option Value × pm_M := (some (.int r.1), r.2)
def pm_rL (r : Int64 × pm_M) : Option Value × pm_M := (some (.long r.1), r.2)
def pm_rV (M : pm_M) : Option Value × pm_M := (none, M)
section PMI
variable {X : pm_X} {C : pm_CR} {T : pm_Tb} {ret : Option FieldType} {ρ : Type} {rt : ρ → Option Value × pm_M} {sh s1 s2 : Option ρ} {σ σ' σ1 σ2 : pm_St}
theorem pm_fin_step (h : pm_Stp X C T σ σ') {v : Option Value} {M : pm_M} (k : pm_Fin X C T ret σ' v M) : pm_Fin X C T ret σ v M := by
  obtain ⟨n, τ, h1, h2⟩ := k
  exact ⟨n + 1, τ, ⟨σ', h, h1⟩, h2⟩
theorem pm_istep (h : pm_step X T σ = some σ') (k : pm_Im X C T ret rt sh σ') : pm_Im X C T ret rt sh σ := fun r hr => pm_fin_step (Or.inl h) (k r hr)
theorem pm_irun : ∀ (n : Nat) {σ σ' : pm_St}, pm_run X T n σ = some σ' → pm_Im X C T ret rt sh σ' → pm_Im X C T ret rt sh σ
  | 0, σ, σ', h, k => by cases h; exact k
  | n + 1, σ, σ', h, k => by
    unfold pm_run at h
    split at h
    · rename_i τ hτ
      exact pm_istep hτ (pm_irun n h k)
    · cases h
theorem pm_iite {c : Prop} [Decidable c] (h : pm_step X T σ = if c then some σ1 else some σ2) (k1 : c → pm_Im X C T ret rt s1 σ1) (k2 : ¬ c → pm_Im X C T ret rt s2 σ2) : pm_Im X C T ret rt (if c then s1 else s2) σ := by
  by_cases hc : c
  · rw [if_pos hc] at h ⊢
    exact pm_istep h (k1 hc)
  · rw [if_neg hc] at h ⊢
    exact pm_istep h (k2 hc)
theorem pm_igd {c : Prop} [Decidable c] (h : pm_step X T σ = if c then some σ1 else none) (k : c → pm_Im X C T ret rt s1 σ1) : pm_Im X C T ret rt (if c then s1 else none) σ := by
  by_cases hc : c
  · rw [if_pos hc] at h ⊢
    exact pm_istep h (k hc)
  · rw [if_neg hc]
    intro r hr
    cases hr
theorem pm_igt {c : Prop} [Decidable c] (hc : c) (h : pm_step X T σ = if c then some σ1 else none) (k : pm_Im X C T ret rt s1 σ1) : pm_Im X C T ret rt s1 σ := by
  rw [if_pos hc] at h
  exact pm_istep h k
theorem pm_isw {x : Int32} {d kk t : Nat} {l : List Nat} {al : pm_L} {r : List Value} {M : pm_M} (k1 : x = Int32.ofNat kk → pm_Im X C T ret rt s1 (t, al, r, M)) (k2 : ¬ x = Int32.ofNat kk → pm_Im X C T ret rt s2 (pm_sw x d l, al, r, M)) : pm_Im X C T ret rt (if x = Int32.ofNat kk then s1 else s2) (pm_sw x d (kk :: t :: l), al, r, M) := by
  by_cases hc : x = Int32.ofNat kk
  · rw [if_pos hc]
    simp only [pm_sw, if_pos hc]
    exact k1 hc
  · rw [if_neg hc]
    simp only [pm_sw, if_neg hc]
    exact k2 hc
theorem pm_ilt {α : Type} {e : α} {f : α → Option ρ} (S : α → pm_St) (k : ∀ x, pm_Im X C T ret rt (f x) (S x)) : pm_Im X C T ret rt (pm_lt e f) (S e) := k e
theorem pm_ijn {β : Type} {J : β} {B : β → Option ρ} (P : β → Prop) (hJ : P J) (k : ∀ j, P j → pm_Im X C T ret rt (B j) σ) : pm_Im X C T ret rt (pm_jn J B) σ := k J hJ
theorem pm_iloop {β : Type} {bot : β} {F : β → β} (P : β → Prop) (h0 : P bot) (k : ∀ g, P g → P (F g)) : ∀ n, P (pm_loop bot F n)
  | 0 => h0
  | n + 1 => k _ (pm_iloop P h0 k n)
theorem pm_inone : pm_Im X C T ret rt none σ := fun r hr => by cases hr
theorem pm_iaal {pc : Nat} {al : pm_L} {i : Int32} {r : List Value} {M : pm_M} {t0 t1 t2 t3 : Option ρ} (hl : pm_lk T pc = some (.aaload, 1, [], .null))
    (k0 : pm_Im X C T ret rt t0 (pc + 1, al, .ref (pm_sheetId 0) :: r, M)) (k1 : pm_Im X C T ret rt t1 (pc + 1, al, .ref (pm_sheetId 1) :: r, M)) (k2 : pm_Im X C T ret rt t2 (pc + 1, al, .ref (pm_sheetId 2) :: r, M)) (k3 : pm_Im X C T ret rt t3 (pc + 1, al, .ref (pm_sheetId 3) :: r, M)) :
    pm_Im X C T ret rt (if i = 0 then t0 else if i = 1 then t1 else if i = 2 then t2 else if i = 3 then t3 else none) (pc, al, .int i :: .ref 39 :: r, M) := by
  by_cases h0 : i = 0
  · subst h0
    exact pm_istep (by unfold pm_step; dsimp only; rw [hl]; rfl) k0
  · rw [if_neg h0]
    by_cases h1 : i = 1
    · subst h1
      exact pm_istep (by unfold pm_step; dsimp only; rw [hl]; rfl) k1
    · rw [if_neg h1]
      by_cases h2 : i = 2
      · subst h2
        exact pm_istep (by unfold pm_step; dsimp only; rw [hl]; rfl) k2
      · rw [if_neg h2]
        by_cases h3 : i = 3
        · subst h3
          exact pm_istep (by unfold pm_step; dsimp only; rw [hl]; rfl) k3
        · rw [if_neg h3]
          exact pm_inone
theorem pm_icI {pc : Nat} {al : pm_L} {st as rest : List Value} {M : pm_M} {e0 : pm_E} {m2 na : Nat} {s0 : Option (Int32 × pm_M)} {f : Int32 → pm_M → Option ρ} (h1 : pm_lk T pc = some e0) (h2 : pm_callee e0 = some (m2, na)) (h3 : as.length = na) (h4 : st = as.reverse ++ rest) (h5 : (rest.map fun v => v.category).sum ≤ 8) (h6 : pm_rc m2 as = true)
    (hC : ∀ r, s0 = some r → C m2 as M (some (.int r.1)) r.2) (k : ∀ v M1, pm_Im X C T ret rt (f v M1) (pc + 3, al, .int v :: rest, M1)) : pm_Im X C T ret rt (pm_bd s0 f) (pc, al, st, M) := by
  intro r hr
  unfold pm_bd at hr
  split at hr
  · rename_i a M1
    exact pm_fin_step (Or.inr (Or.inr ⟨e0, m2, na, as, rest, some (.int a), M1, h1, h2, h3, h4, h5, h6, hC _ rfl, rfl⟩)) (k a M1 r hr)
  · cases hr
theorem pm_icL {pc : Nat} {al : pm_L} {st as rest : List Value} {M : pm_M} {e0 : pm_E} {m2 na : Nat} {s0 : Option (Int64 × pm_M)} {f : Int64 → pm_M → Option ρ} (h1 : pm_lk T pc = some e0) (h2 : pm_callee e0 = some (m2, na)) (h3 : as.length = na) (h4 : st = as.reverse ++ rest) (h5 : (rest.map fun v => v.category).sum ≤ 8) (h6 : pm_rc m2 as = true)
    (hC : ∀ r, s0 = some r → C m2 as M (some (.long r.1)) r.2) (k : ∀ v M1, pm_Im X C T ret rt (f v M1) (pc + 3, al, .long v :: rest, M1)) : pm_Im X C T ret rt (pm_bd s0 f) (pc, al, st, M) := by
  intro r hr
  unfold pm_bd at hr
  split at hr
  · rename_i a M1
    exact pm_fin_step (Or.inr (Or.inr ⟨e0, m2, na, as, rest, some (.long a), M1, h1, h2, h3, h4, h5, h6, hC _ rfl, rfl⟩)) (k a M1 r hr)
  · cases hr
theorem pm_icV {pc : Nat} {al : pm_L} {st as rest : List Value} {M : pm_M} {e0 : pm_E} {m2 na : Nat} {s0 : Option pm_M} {f : pm_M → Option ρ} (h1 : pm_lk T pc = some e0) (h2 : pm_callee e0 = some (m2, na)) (h3 : as.length = na) (h4 : st = as.reverse ++ rest) (h5 : (rest.map fun v => v.category).sum ≤ 8) (h6 : pm_rc m2 as = true)
    (hC : ∀ r, s0 = some r → C m2 as M none r) (k : ∀ M1, pm_Im X C T ret rt (f M1) (pc + 3, al, rest, M1)) : pm_Im X C T ret rt (pm_bv s0 f) (pc, al, st, M) := by
  intro r hr
  unfold pm_bv at hr
  split at hr
  · rename_i M1
    exact pm_fin_step (Or.inr (Or.inr ⟨e0, m2, na, as, rest, none, M1, h1, h2, h3, h4, h5, h6, hC _ rfl, rfl⟩)) (k M1 r hr)
  · cases hr
def pm_Sub (a b : pm_L) : Prop := ∀ (i : Nat) (v : Value), a.getD i none = some v → b.getD i none = some v
theorem pm_wk0 {b : pm_L} : pm_Sub [] b := fun i v h => by simp at h
theorem pm_wkN {a b : pm_L} {o : Option Value} (h : pm_Sub a b) : pm_Sub (none :: a) (o :: b) := fun i v hv => by
  cases i with
  | zero => simp at hv
  | succ i => simpa using h i v (by simpa using hv)
theorem pm_wkS {a b : pm_L} {o : Option Value} (h : pm_Sub a b) : pm_Sub (o :: a) (o :: b) := fun i v hv => by
  cases i with
  | zero => simpa using hv
  | succ i => simpa using h i v (by simpa using hv)
theorem pm_iwk {pc : Nat} {al al' : pm_L} {st : List Value} {M : pm_M} (h : pm_Sub al' al) (k : pm_Im X C T ret rt sh (pc, al', st, M)) : pm_Im X C T ret rt sh (pc, al, st, M) := fun r hr => pm_fin_step (σ := (pc, al, st, M)) (σ' := (pc, al', st, M)) (Or.inr (Or.inl ⟨rfl, rfl, h⟩)) (k r hr)
end PMI
section PMJ
variable {X : pm_X} {C : pm_CR} {T : pm_Tb} {pc : Nat} {al : pm_L} {M : pm_M}
theorem pm_irI {x : Int32} {e0 : pm_E} (h : pm_lk T pc = some e0) (he : e0.1 = .ireturn) : pm_Im X C T (some .int) pm_rI (some (x, M)) (pc, al, [.int x], M) := by
  intro r hr
  cases hr
  exact ⟨0, _, rfl, e0, h, rfl, by unfold pm_RetE; rw [he]; exact ⟨x, rfl, rfl, Or.inl rfl⟩⟩
theorem pm_irZ {x : Int32} {e0 : pm_E} (hx : x = 0 ∨ x = 1) (h : pm_lk T pc = some e0) (he : e0.1 = .ireturn) : pm_Im X C T (some .boolean) pm_rI (some (x, M)) (pc, al, [.int x], M) := by
  intro r hr
  cases hr
  exact ⟨0, _, rfl, e0, h, rfl, by unfold pm_RetE; rw [he]; exact ⟨x, rfl, rfl, Or.inr ⟨rfl, hx⟩⟩⟩
theorem pm_irZg {x : Int32} {e0 : pm_E} (h : pm_lk T pc = some e0) (he : e0.1 = .ireturn) : pm_Im X C T (some .boolean) pm_rI (if x = 0 ∨ x = 1 then some (x, M) else none) (pc, al, [.int x], M) := by
  by_cases hx : x = 0 ∨ x = 1
  · rw [if_pos hx]; exact pm_irZ hx h he
  · rw [if_neg hx]; exact pm_inone
theorem pm_irL {x : Int64} {e0 : pm_E} (h : pm_lk T pc = some e0) (he : e0.1 = .lreturn) : pm_Im X C T (some .long) pm_rL (some (x, M)) (pc, al, [.long x], M) := by
  intro r hr
  cases hr
  exact ⟨0, _, rfl, e0, h, rfl, by unfold pm_RetE; rw [he]; exact ⟨x, rfl, rfl, rfl⟩⟩
theorem pm_irV {e0 : pm_E} (h : pm_lk T pc = some e0) (he : e0.1 = .return_) : pm_Im X C T none pm_rV (some M) (pc, al, [], M) := by
  intro r hr
  cases hr
  exact ⟨0, _, rfl, e0, h, rfl, by unfold pm_RetE; rw [he]; exact ⟨rfl, rfl, rfl⟩⟩
end PMJ
theorem pm_Rch_mono {X : pm_X} {C C' : pm_CR} {T : pm_Tb} (h : ∀ m as M v M', C m as M v M' → C' m as M v M') : ∀ n σ σ', pm_Rch X C T n σ σ' → pm_Rch X C' T n σ σ'
  | 0, _, _, k => k
  | n + 1, σ, σ', k => by
    obtain ⟨τ, k1, k2⟩ := k
    refine ⟨τ, ?_, pm_Rch_mono h n τ σ' k2⟩
    rcases k1 with k1 | k1 | ⟨e, m, na, as, rest, v, M, q1, q2, q3, q4, q5, q6, q7, q8⟩
    · exact Or.inl k1
    · exact Or.inr (Or.inl k1)
    · exact Or.inr (Or.inr ⟨e, m, na, as, rest, v, M, q1, q2, q3, q4, q5, q6, h _ _ _ _ _ q7, q8⟩)
theorem pm_Ev_succ : ∀ d m as M v M', pm_Ev d m as M v M' → pm_Ev (d + 1) m as M v M'
  | 0, _, _, _, _, _, h => h.elim
  | d + 1, m, as, M, v, M', h => by
    obtain ⟨h0, n, σ, h1, h2⟩ := h
    exact ⟨h0, n, σ, pm_Rch_mono (pm_Ev_succ d) n _ _ h1, h2⟩
theorem pm_Ev_mono {d d' m : Nat} {as : List Value} {M M' : pm_M} {v : Option Value} (hd : d ≤ d') (h : pm_Ev d m as M v M') : pm_Ev d' m as M v M' := by
  induction hd with
  | refl => exact h
  | step _ ih => exact pm_Ev_succ _ _ _ _ _ _ ih
/-- a method's function, from its entry -/
theorem pm_meth {d mid : Nat} {T : pm_Tb} {me : pm_Me} {ret : Option FieldType} {ρ : Type} {rt : ρ → Option Value × pm_M} {sh : Option ρ} {as : List Value} {al : pm_L} {M : pm_M} (hT : pm_tb mid = T) (hme : pm_me mid = me) (hret : me.2.2.2.1 = ret) (hen : pm_en me.2.2.1 as = al) (hl : al.length = me.2.2.1)
    (k : pm_Im none (pm_Ev d) T ret rt sh (0, al, [], M)) : ∀ r, sh = some r → pm_Ev (d + 1) mid as M (rt r).1 (rt r).2 := by
  intro r hr
  subst hT; subst hme; subst hret; subst hen
  obtain ⟨n, σ, h1, h2⟩ := k r hr
  exact ⟨hl, n, σ, h1, h2⟩
