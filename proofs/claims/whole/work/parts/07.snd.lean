/-! THE SMALL MACHINE IS SOUND: what it does, the machine does -/
def pm_Zs (ad : Nat → Nat) (A : Nat → Prop) (U : State) (H : Heap) : Prop :=
  (va_Z "PalletRounds" "FACTORIALS" "[J" (.ref (ad 100)) A U H ∧ va_T .long (ad 100) 9 (fun j => .long (pm_FA j)) A U H) ∧
  (va_Z "PalletRounds" "CHOICES" "[J" (.ref (ad 101)) A U H ∧ va_T .long (ad 101) 49 (fun j => .long (pm_CH j)) A U H)
def pm_Cx (p : Program) (R : Room) (s : State) (m : MethodId) (args : Array Value) (c : Code) (cells slots : Nat) (own : String) (cc : ByteArray) (nL d : Nat) (X : pm_X) (D : va_G) (ad : Nat → Nat) (cA : Nat → ClassId) (A : Nat → Prop) : Prop :=
  p.tables.exec = Jvm.exec ∧ c.code = cc ∧ c.maxLocals = nL ∧ s.vm.findClass own = some m.cls ∧ (∀ w ∈ pm_Ws, w.before args s = true) ∧ (∀ w ∈ pm_nests, va_Nw w s) ∧ va_K D vwCl (pm_ty cA) s ∧ pm_Zs ad A s s.heap ∧ (∀ q, s.heap.size ≤ q → A q) ∧ (d + 1 ≤ R.frames ∧ 60 * (d + 1) ≤ R.locals ∧ cells ≤ R.cells ∧ slots ≤ R.slots) ∧ (∀ L xs, X = some (L, xs) → va_X (ad 102) L xs s s.heap ∧ ad 102 < s.heap.size ∧ ¬ A (ad 102))
theorem pm_sI_self (M : pm_M) (a k : Nat) (v : Int32) : (pm_sI M a k v).1 a = upd (M.1 a) k v := by funext j; simp [pm_sI, upd]
theorem pm_sI_ne {M : pm_M} {a k i : Nat} {v : Int32} (h : i ≠ a) : (pm_sI M a k v).1 i = M.1 i ∧ (pm_sI M a k v).2 i = M.2 i := by
  refine ⟨?_, rfl⟩
  funext j; simp [pm_sI, h]
theorem pm_sL_self (M : pm_M) (a k : Nat) (v : Int64) : (pm_sL M a k v).2 a = vp_updL (M.2 a) k v := by funext j; simp [pm_sL, vp_updL]
theorem pm_sL_ne {M : pm_M} {a k i : Nat} {v : Int64} (h : i ≠ a) : (pm_sL M a k v).1 i = M.1 i ∧ (pm_sL M a k v).2 i = M.2 i := by
  refine ⟨rfl, ?_⟩
  funext j; simp [pm_sL, h]
theorem pm_in_vp {i : Int32} {n : Nat} (h : pm_in i n) : vp_in i n := fun q => q.elim h.1 (fun q => by have := h.2; omega)
theorem pm_w_word {i : Nat} {w : Jvm.Cond} {s : State} {args : Array Value} (h : ∀ w ∈ pm_Ws, w.before args s = true) (hw : pm_w i w = true) : w.before args s = true := h w (pm_w_ok hw)
section PMO
variable {p : Program} {l : Launch} {e : Env} {R : Room} {s : State} {m : MethodId} {args : Array Value} {below : List Frame} {meth : Method} {c : Code} {cells slots : Nat} {Q : State → Prop}
variable {own : String} {cc : ByteArray} {nL d : Nat} {X : pm_X} {D : va_G} {ad : Nat → Nat} {cA : Nat → ClassId} {A : Nat → Prop}
def pm_Ok (p : Program) (l : Launch) (e : Env) (R : Room) (s : State) (m : MethodId) (args : Array Value) (below : List Frame) (meth : Method) (c : Code) (cells slots : Nat) (Q : State → Prop) (nL : Nat) (D : va_G) (ad : Nat → Nat) (cA : Nat → ClassId) (A : Nat → Prop) (σ : pm_St) : Prop :=
  ∀ (H : Heap) (locs : List Loc) (ls : Array Slot), va_P D vwCl (pm_W ad cA σ.2.2.2) H → va_D A (pm_W ad cA σ.2.2.2) → va_S A s.heap H locs → pm_hl ad nL σ.2.1 ls → W p l e R s m args below meth c H locs cells slots Q (F0 m σ.1 ls (σ.2.2.1.map (pm_cv ad)))
theorem pm_ok_bI {f : Int32 → Int32 → Int32} {σ σ' : pm_St}
    (row : ∀ (H : Heap) (locs : List Loc) (ls : Array Slot) (x y : Int32) (rest : List Value), W p l e R s m args below meth c H locs cells slots Q (F0 m (σ.1 + 1) ls (.int (f x y) :: rest)) → W p l e R s m args below meth c H locs cells slots Q (F0 m σ.1 ls (.int y :: .int x :: rest)))
    (h : pm_bI f σ = some σ') (k : pm_Ok p l e R s m args below meth c cells slots Q nL D ad cA A σ') : pm_Ok p l e R s m args below meth c cells slots Q nL D ad cA A σ := by
  intro H locs ls hP hD hS hl
  unfold pm_bI at h
  split at h
  · cases h
    exact row _ _ _ _ _ _ (k H locs ls hP hD hS hl)
  · cases h
theorem pm_ok_bL {f : Int64 → Int64 → Int64} {σ σ' : pm_St}
    (row : ∀ (H : Heap) (locs : List Loc) (ls : Array Slot) (x y : Int64) (rest : List Value), W p l e R s m args below meth c H locs cells slots Q (F0 m (σ.1 + 1) ls (.long (f x y) :: rest)) → W p l e R s m args below meth c H locs cells slots Q (F0 m σ.1 ls (.long y :: .long x :: rest)))
    (h : pm_bL f σ = some σ') (k : pm_Ok p l e R s m args below meth c cells slots Q nL D ad cA A σ') : pm_Ok p l e R s m args below meth c cells slots Q nL D ad cA A σ := by
  intro H locs ls hP hD hS hl
  unfold pm_bL at h
  split at h
  · cases h
    exact row _ _ _ _ _ _ (k H locs ls hP hD hS hl)
  · cases h
theorem pm_ok_uI {f : Int32 → Value} (hf : ∀ x, pm_cv ad (f x) = f x) {σ σ' : pm_St}
    (row : ∀ (H : Heap) (locs : List Loc) (ls : Array Slot) (x : Int32) (rest : List Value), W p l e R s m args below meth c H locs cells slots Q (F0 m (σ.1 + 1) ls (f x :: rest)) → W p l e R s m args below meth c H locs cells slots Q (F0 m σ.1 ls (.int x :: rest)))
    (h : pm_uI f σ = some σ') (k : pm_Ok p l e R s m args below meth c cells slots Q nL D ad cA A σ') : pm_Ok p l e R s m args below meth c cells slots Q nL D ad cA A σ := by
  intro H locs ls hP hD hS hl
  unfold pm_uI at h
  split at h
  · rename_i x r M
    cases h
    have k2 := k H locs ls hP hD hS hl
    dsimp only at k2
    rw [List.map_cons, hf] at k2
    exact row _ _ _ _ _ k2
  · cases h
theorem pm_ok_uL {f : Int64 → Value} (hf : ∀ x, pm_cv ad (f x) = f x) {σ σ' : pm_St}
    (row : ∀ (H : Heap) (locs : List Loc) (ls : Array Slot) (x : Int64) (rest : List Value), W p l e R s m args below meth c H locs cells slots Q (F0 m (σ.1 + 1) ls (f x :: rest)) → W p l e R s m args below meth c H locs cells slots Q (F0 m σ.1 ls (.long x :: rest)))
    (h : pm_uL f σ = some σ') (k : pm_Ok p l e R s m args below meth c cells slots Q nL D ad cA A σ') : pm_Ok p l e R s m args below meth c cells slots Q nL D ad cA A σ := by
  intro H locs ls hP hD hS hl
  unfold pm_uL at h
  split at h
  · rename_i x r M
    cases h
    have k2 := k H locs ls hP hD hS hl
    dsimp only at k2
    rw [List.map_cons, hf] at k2
    exact row _ _ _ _ _ k2
  · cases h
theorem pm_ok_push {v : Value} {n : Nat} (hf : pm_cv ad v = v) {σ σ' : pm_St}
    (row : ∀ (H : Heap) (locs : List Loc) (ls : Array Slot) (rest : List Value), W p l e R s m args below meth c H locs cells slots Q (F0 m (σ.1 + n) ls (v :: rest)) → W p l e R s m args below meth c H locs cells slots Q (F0 m σ.1 ls rest))
    (h : pm_push v n σ = some σ') (k : pm_Ok p l e R s m args below meth c cells slots Q nL D ad cA A σ') : pm_Ok p l e R s m args below meth c cells slots Q nL D ad cA A σ := by
  obtain ⟨pc, al, st, M⟩ := σ
  intro H locs ls hP hD hS hl
  cases h
  have k2 := k H locs ls hP hD hS hl
  dsimp only at k2
  rw [List.map_cons, hf] at k2
  exact row _ _ _ _ k2
theorem pm_ok_ldI {i n : Nat} {σ σ' : pm_St}
    (row : ∀ (H : Heap) (locs : List Loc) (ls : Array Slot) (x : Int32) (rest : List Value), ls[i]? = some (.val (.int x)) → W p l e R s m args below meth c H locs cells slots Q (F0 m (σ.1 + n) ls (.int x :: rest)) → W p l e R s m args below meth c H locs cells slots Q (F0 m σ.1 ls rest))
    (h : pm_ldI i n σ = some σ') (k : pm_Ok p l e R s m args below meth c cells slots Q nL D ad cA A σ') : pm_Ok p l e R s m args below meth c cells slots Q nL D ad cA A σ := by
  obtain ⟨pc, al, st, M⟩ := σ
  intro H locs ls hP hD hS hl
  unfold pm_ldI at h
  dsimp only at h
  split at h
  · rename_i x hx
    cases h
    exact row _ _ _ _ _ (hl.2.2 i _ hx) (k H locs ls hP hD hS hl)
  · cases h
theorem pm_ok_ldL {i n : Nat} {σ σ' : pm_St}
    (row : ∀ (H : Heap) (locs : List Loc) (ls : Array Slot) (x : Int64) (rest : List Value), ls[i]? = some (.val (.long x)) → W p l e R s m args below meth c H locs cells slots Q (F0 m (σ.1 + n) ls (.long x :: rest)) → W p l e R s m args below meth c H locs cells slots Q (F0 m σ.1 ls rest))
    (h : pm_ldL i n σ = some σ') (k : pm_Ok p l e R s m args below meth c cells slots Q nL D ad cA A σ') : pm_Ok p l e R s m args below meth c cells slots Q nL D ad cA A σ := by
  obtain ⟨pc, al, st, M⟩ := σ
  intro H locs ls hP hD hS hl
  unfold pm_ldL at h
  dsimp only at h
  split at h
  · rename_i x hx
    cases h
    exact row _ _ _ _ _ (hl.2.2 i _ hx) (k H locs ls hP hD hS hl)
  · cases h
theorem pm_ok_ldA {i n : Nat} {σ σ' : pm_St}
    (row : ∀ (H : Heap) (locs : List Loc) (ls : Array Slot) (x : Nat) (rest : List Value), ls[i]? = some (.val (.ref x)) → W p l e R s m args below meth c H locs cells slots Q (F0 m (σ.1 + n) ls (.ref x :: rest)) → W p l e R s m args below meth c H locs cells slots Q (F0 m σ.1 ls rest))
    (h : pm_ldA i n σ = some σ') (k : pm_Ok p l e R s m args below meth c cells slots Q nL D ad cA A σ') : pm_Ok p l e R s m args below meth c cells slots Q nL D ad cA A σ := by
  obtain ⟨pc, al, st, M⟩ := σ
  intro H locs ls hP hD hS hl
  unfold pm_ldA at h
  dsimp only at h
  split at h
  · rename_i x hx
    cases h
    exact row _ _ _ _ _ (hl.2.2 i _ hx) (k H locs ls hP hD hS hl)
  · cases h
theorem pm_ok_soI {i n : Nat} {σ σ' : pm_St}
    (row : ∀ (H : Heap) (locs : List Loc) (ls : Array Slot) (x : Int32) (rest : List Value) (lv : List (Nat × Value)), lv_has ls nL lv → (∀ ls' : Array Slot, lv_has ls' nL ((i, Value.int x) :: lv.filter (fun q => !(q.1 == i) && !(q.1 + 1 == i && q.2.category == 2))) → W p l e R s m args below meth c H locs cells slots Q (F0 m (σ.1 + n) ls' rest)) → W p l e R s m args below meth c H locs cells slots Q (F0 m σ.1 ls (.int x :: rest)))
    (h : pm_soI i n σ = some σ') (k : pm_Ok p l e R s m args below meth c cells slots Q nL D ad cA A σ') : pm_Ok p l e R s m args below meth c cells slots Q nL D ad cA A σ := by
  intro H locs ls hP hD hS hl
  unfold pm_soI at h
  split at h
  · cases h
    exact row _ _ _ _ _ _ (pm_hl_has hl) (fun ls' h' => k H locs ls' hP hD hS (pm_hl_st1 h'))
  · cases h
theorem pm_ok_soA {i n : Nat} {σ σ' : pm_St}
    (row : ∀ (H : Heap) (locs : List Loc) (ls : Array Slot) (x : Nat) (rest : List Value) (lv : List (Nat × Value)), lv_has ls nL lv → (∀ ls' : Array Slot, lv_has ls' nL ((i, Value.ref x) :: lv.filter (fun q => !(q.1 == i) && !(q.1 + 1 == i && q.2.category == 2))) → W p l e R s m args below meth c H locs cells slots Q (F0 m (σ.1 + n) ls' rest)) → W p l e R s m args below meth c H locs cells slots Q (F0 m σ.1 ls (.ref x :: rest)))
    (h : pm_soA i n σ = some σ') (k : pm_Ok p l e R s m args below meth c cells slots Q nL D ad cA A σ') : pm_Ok p l e R s m args below meth c cells slots Q nL D ad cA A σ := by
  intro H locs ls hP hD hS hl
  unfold pm_soA at h
  split at h
  · rename_i pc al a r M
    cases h
    exact row _ _ _ _ _ _ (pm_hl_has hl) (fun ls' h' => k H locs ls' hP hD hS (pm_hl_st1 (v := .ref a) h'))
  · cases h
theorem pm_ok_soL {i n : Nat} {σ σ' : pm_St}
    (row : ∀ (H : Heap) (locs : List Loc) (ls : Array Slot) (x : Int64) (rest : List Value) (lv : List (Nat × Value)), lv_has ls nL lv → (∀ ls' : Array Slot, lv_has ls' nL ((i, Value.long x) :: lv.filter (fun q => !(q.1 == i) && (!(q.1 == i + 1) && !(q.1 + 1 == i && q.2.category == 2)))) → W p l e R s m args below meth c H locs cells slots Q (F0 m (σ.1 + n) ls' rest)) → W p l e R s m args below meth c H locs cells slots Q (F0 m σ.1 ls (.long x :: rest)))
    (h : pm_soL i n σ = some σ') (k : pm_Ok p l e R s m args below meth c cells slots Q nL D ad cA A σ') : pm_Ok p l e R s m args below meth c cells slots Q nL D ad cA A σ := by
  intro H locs ls hP hD hS hl
  unfold pm_soL at h
  split at h
  · cases h
    exact row _ _ _ _ _ _ (pm_hl_has hl) (fun ls' h' => k H locs ls' hP hD hS (pm_hl_st2 h'))
  · cases h
theorem pm_ok_if1 {P : Int32 → Prop} [DecidablePred P] {t : Nat} {σ σ' : pm_St}
    (row : ∀ (H : Heap) (locs : List Loc) (ls : Array Slot) (x : Int32) (rest : List Value), (P x → W p l e R s m args below meth c H locs cells slots Q (F0 m t ls rest)) → (¬ P x → W p l e R s m args below meth c H locs cells slots Q (F0 m (σ.1 + 3) ls rest)) → W p l e R s m args below meth c H locs cells slots Q (F0 m σ.1 ls (.int x :: rest)))
    (h : pm_if1 P t σ = some σ') (k : pm_Ok p l e R s m args below meth c cells slots Q nL D ad cA A σ') : pm_Ok p l e R s m args below meth c cells slots Q nL D ad cA A σ := by
  intro H locs ls hP hD hS hl
  unfold pm_if1 at h
  split at h
  · split at h
    · rename_i hp
      cases h
      exact row _ _ _ _ _ (fun _ => k H locs ls hP hD hS hl) (fun q => absurd hp q)
    · rename_i hp
      cases h
      exact row _ _ _ _ _ (fun q => absurd q hp) (fun _ => k H locs ls hP hD hS hl)
  · cases h
theorem pm_ok_if2 {P : Int32 → Int32 → Prop} [∀ x y, Decidable (P x y)] {t : Nat} {σ σ' : pm_St}
    (row : ∀ (H : Heap) (locs : List Loc) (ls : Array Slot) (x y : Int32) (rest : List Value), (P x y → W p l e R s m args below meth c H locs cells slots Q (F0 m t ls rest)) → (¬ P x y → W p l e R s m args below meth c H locs cells slots Q (F0 m (σ.1 + 3) ls rest)) → W p l e R s m args below meth c H locs cells slots Q (F0 m σ.1 ls (.int y :: .int x :: rest)))
    (h : pm_if2 P t σ = some σ') (k : pm_Ok p l e R s m args below meth c cells slots Q nL D ad cA A σ') : pm_Ok p l e R s m args below meth c cells slots Q nL D ad cA A σ := by
  intro H locs ls hP hD hS hl
  unfold pm_if2 at h
  split at h
  · split at h
    · rename_i hp
      cases h
      exact row _ _ _ _ _ _ (fun _ => k H locs ls hP hD hS hl) (fun q => absurd hp q)
    · rename_i hp
      cases h
      exact row _ _ _ _ _ _ (fun q => absurd q hp) (fun _ => k H locs ls hP hD hS hl)
  · cases h
end PMO
