def pm_rm (d : Nat) : Room := { frames := d, cells := 0, slots := 0, locals := 60 * d }
def pm_wsm (mid : Nat) : List Cond := .code (pm_me mid).1 (pm_me mid).2.1 (pm_me mid).2.2.1 (pm_me mid).2.2.2.1 :: pm_Ws
def pm_Bs (D : va_G) (ad : Nat → Nat) (cA : Nat → ClassId) (M : pm_M) (sz : Nat) (U : State) : Prop :=
  U.heap.size = sz ∧ va_P D vwCl (pm_W ad cA M) U.heap ∧ va_K D vwCl (pm_ty cA) U ∧ va_D (fun _ => True) (pm_W ad cA M) ∧ pm_Zs ad (va_A (pm_W ad cA M) sz) U U.heap ∧ ∀ w ∈ pm_nests, va_Nw w U
def pm_Qc (D : va_G) (ad : Nat → Nat) (cA : Nat → ClassId) (M' : pm_M) (v : Option Value) (A : Nat → Prop) : Array Value → State → Outcome → State → Prop := fun _ st o t => (o = .returned v ∧ va_P D vwCl (pm_W ad cA M') t.heap) ∧ va_F A st t
def pm_CM (l : Launch) (C : pm_CR) (d : Nat) : Prop := ∀ (mid : Nat) (as : List Value) (M : pm_M) (v : Option Value) (M' : pm_M), C mid as M v M' → mid + 1 < pm_MT.length →
  (∀ (ad : Nat → Nat) (x : Value), v = some x → pm_cv ad x = x) ∧ ∀ (D : va_G) (ad : Nat → Nat) (cA : Nat → ClassId) (sz : Nat), Met l (pm_me mid).1 (pm_wsm mid) (pm_rm d) (va_Pc (as.map (pm_cv ad)) (pm_Bs D ad cA M sz)) (pm_Qc D ad cA M' v (va_A (pm_W ad cA M) sz)) 0 0 (va_A (pm_W ad cA M) sz)
theorem pm_Zs_moved {ad : Nat → Nat} {A : Nat → Prop} {u U : State} {H : Heap} (hvm : u.vm.Alike U.vm) (h : pm_Zs ad A u H) : pm_Zs ad A U H :=
  ⟨⟨va_Z.moved hvm h.1.1, va_T.moved hvm h.1.2⟩, ⟨va_Z.moved hvm h.2.1, va_T.moved hvm h.2.2⟩⟩
theorem pm_Zs_kept {ad : Nat → Nat} {A : Nat → Prop} {U : State} {H H1 : Heap} (hq : ∀ a : Nat, a < H.size → ¬ A a → H1[a]? = H[a]?) (h : pm_Zs ad A U H) : pm_Zs ad A U H1 :=
  ⟨⟨va_Z.kept h.1.1 hq, va_T.kept h.1.2 hq⟩, ⟨va_Z.kept h.2.1 hq, va_T.kept h.2.2 hq⟩⟩
theorem pm_Zs_narrow {ad : Nat → Nat} {A B : Nat → Prop} {U : State} {H : Heap} (hAB : ∀ q, B q → A q) (h : pm_Zs ad A U H) : pm_Zs ad B U H :=
  ⟨⟨va_Z.narrow h.1.1 hAB, va_T.narrow h.1.2 hAB⟩, ⟨va_Z.narrow h.2.1 hAB, va_T.narrow h.2.2 hAB⟩⟩
theorem pm_nest_cases {w : Cond} (h : w ∈ pm_nests) : ∃ a i x g, w = .methodLinkNest a i x g := by
  unfold pm_nests at h
  simp only [List.mem_cons, List.not_mem_nil, or_false] at h
  rcases h with rfl | rfl | rfl | rfl <;> exact ⟨_, _, _, _, rfl⟩
theorem pm_nest_same {w : Cond} {u U : State} (hw : w ∈ pm_nests) (h : u.vm = U.vm) (hZ : va_Nw w u) : va_Nw w U := by
  obtain ⟨a, i, x, g, rfl⟩ := pm_nest_cases hw
  exact va_Nw.same rfl h hZ
theorem pm_nest_warm {w : Cond} {s U : State} (hw : w ∈ pm_nests) (hW : s.WarmedH U.vm) (hZ : va_Nw w s) : va_Nw w U := by
  obtain ⟨a, i, x, g, rfl⟩ := pm_nest_cases hw
  exact va_Nw.warmM hW hZ
theorem pm_blind {as : List Value} {D : va_G} {ad : Nat → Nat} {cA : Nat → ClassId} {M : pm_M} {sz : Nat} : FrameBlind (va_Pc as (pm_Bs D ad cA M sz)) := by
  intro a U g mk q
  obtain ⟨q0, q1, q2, q3, q4, q5, q6⟩ := q
  exact ⟨q0, q1, q2, va_K.moved (u := U) (U := U.calling g mk a) (Vm.Alike.refl U.vm) q3, q4, pm_Zs_moved (u := U) (U := U.calling g mk a) (Vm.Alike.refl U.vm) q5, fun w hw => pm_nest_same (u := U) (U := U.calling g mk a) hw rfl (q6 w hw)⟩
section PMR
variable {p : Program} {l : Launch} {e : Env} {R : Room} {s : State} {m : MethodId} {args : Array Value} {below : List Frame} {meth : Method} {c : Code} {cells slots : Nat} {Q : State → Prop}
variable {own : String} {cc : ByteArray} {nL d : Nat} {X : pm_X} {D : va_G} {ad : Nat → Nat} {cA : Nat → ClassId} {A : Nat → Prop}
theorem pm_bs_of {H : Heap} {locs : List Loc} {M : pm_M} {U : State} (C0 : pm_Cx p R s m args c cells slots own cc nL d X D ad cA A) (hP : va_P D vwCl (pm_W ad cA M) H) (hD : va_D A (pm_W ad cA M)) (hS : va_S A s.heap H locs) (hU : U.heap = H) (hW : s.WarmedH U.vm) : pm_Bs D ad cA M H.size U := by
  obtain ⟨hx, hb, hml, hown, hts, hN, hK, hZ, hA, hR, hX⟩ := C0
  refine ⟨by rw [hU], by rw [hU]; exact hP, va_K.moved hW.alike hK, hD.weaken (fun _ _ _ _ => trivial), ?_, fun w hw => pm_nest_warm hw hW (hN w hw)⟩
  rw [hU]
  refine pm_Zs_narrow (A := A) (fun q h => ?_) (pm_Zs_kept (fun a h1 h2 => hS.2.1 a h1 h2) (pm_Zs_moved hW.alike hZ))
  rcases h with ⟨k, e, h⟩ | h
  · exact hD.2 k _ h
  · exact hA q (Nat.le_trans hS.1 h)
/-- behind a call: the rest of the walk, from what the callee's contract says -/
theorem pm_after {H : Heap} {locs : List Loc} {ls : Array Slot} {M M1 : pm_M} {al : pm_L} {rest : List Value} {v : Option Value} {pc : Nat} {st0 : List Value} {as : Array Value} (hv : ∀ x, v = some x → pm_cv ad x = x)
    (hA : ∀ q, s.heap.size ≤ q → A q)
    (hr : va_Run p l e R s m args below meth c H locs cells slots 0 0 (F0 m pc ls st0) (rest.map (pm_cv ad)) (pm_Qc D ad cA M1 v (va_A (pm_W ad cA M) H.size) as) (va_A (pm_W ad cA M) H.size))
    (hD : va_D A (pm_W ad cA M)) (hS : va_S A s.heap H locs) (hl : pm_hl ad nL al ls)
    (k : pm_Ok p l e R s m args below meth c cells slots Q nL D ad cA A (pc + 3, al, v.toList ++ rest, M1)) : W p l e R s m args below meth c H locs cells slots Q (F0 m pc ls st0) := by
  have hF : ∀ q, va_A (pm_W ad cA M) H.size q → A q := by
    intro q h
    rcases h with ⟨k, e, h⟩ | h
    · exact hD.2 k _ h
    · exact hA q (Nat.le_trans hS.1 h)
  intro T hT X0
  obtain ⟨v', st₀, t, T', L, h0, X', hL, e1, e2, ⟨⟨ho, hP1⟩, hz, hk⟩, st⟩ := hr T hT X0
  cases ho
  rw [h0] at hz hk
  obtain ⟨t2, a1, b1⟩ := k T'.heap (locs ++ L) ls (by rw [e1]; exact hP1) (pm_D_of M1 hD)
    ⟨Nat.le_trans hS.1 (by rw [e1]; exact hz), fun q h1 h2 => by rw [e1, hk q (Nat.lt_of_lt_of_le h1 hS.1) (fun z => h2 (hF q z))]; exact hS.2.1 q h1 h2, fun q hq => by
      rcases List.mem_append.mp hq with h | h
      · exact hS.2.2 q h
      · exact hF _ (hL q h)⟩ hl T' rfl X'
  refine ⟨t2, st t2 ?_, b1⟩
  have hst : (v.toList ++ rest).map (pm_cv ad) = v.toList ++ rest.map (pm_cv ad) := by
    cases v with
    | none => rfl
    | some x => simp [hv x rfl]
  dsimp only at a1
  rw [hst] at a1
  exact a1
theorem pm_call_ok {e0 : pm_E} {m2 na : Nat} {as rest : List Value} {σ : pm_St} {v : Option Value} {M1 : pm_M} {C : pm_CR} (C0 : pm_Cx p R s m args c cells slots own cc nL d X D ad cA A) (hC : pm_CM l C d) (hch : pm_chE own nL cc σ.1 e0 = true)
    (hcal : pm_callee e0 = some (m2, na)) (hlen : as.length = na) (hst : σ.2.2.1 = as.reverse ++ rest) (hsum : (rest.map fun v => v.category).sum ≤ 8) (hrc : pm_rc m2 as = true) (hCall : C m2 as σ.2.2.2 v M1) (hm1000 : ∀ m3, 1000 ≤ m3 → ¬ C m3 as σ.2.2.2 v M1)
    (hmax : ∀ mid, mid + 1 < pm_MT.length → (pm_me mid).2.2.1 ≤ 30)
    (k : pm_Ok p l e R s m args below meth c cells slots Q nL D ad cA A (σ.1 + 3, σ.2.1, v.toList ++ rest, M1)) : pm_Ok p l e R s m args below meth c cells slots Q nL D ad cA A σ := by
  intro H locs ls hP hD hS hl
  obtain ⟨hx, hb, hml, hown, hts, hN, hK, hZ, hA, hR, hX⟩ := id C0
  obtain ⟨ins, n, aux, vv⟩ := e0
  obtain ⟨pc, al, st, M⟩ := σ
  dsimp only at hst hCall k hP hD hl hm1000 ⊢
  unfold pm_chE at hch
  rw [Bool.and_eq_true, decide_eq_true_eq] at hch
  obtain ⟨hd, hch⟩ := hch
  unfold pm_callee at hcal
  dsimp only at hcal hd hch
  subst hst
  rw [List.map_append, List.map_reverse]
  have hWs : ∀ mid, (Cond.code (pm_me mid).1 (pm_me mid).2.1 (pm_me mid).2.2.1 (pm_me mid).2.2.2.1) ∈ pm_Ws → ∀ w ∈ pm_wsm mid, w ∈ pm_Ws := by
    intro mid h w hw
    rcases List.mem_cons.mp hw with rfl | hw
    · exact h
    · exact hw
  cases ins with
  | invokevirtual i =>
    rw [Bool.and_eq_true, beq_iff_eq] at hch
    obtain ⟨rfl, hch⟩ := hch
    split at hch
    · rename_i m2' na' p1 p2 p3 p4 p5
      cases hcal
      simp only [Bool.and_eq_true, decide_eq_true_eq, Bool.not_eq_true'] at hch
      obtain ⟨⟨⟨⟨⟨⟨⟨⟨⟨hme, hlt⟩, hst⟩, hci⟩, hps⟩, h1⟩, h2⟩, h3⟩, h4⟩, h5⟩ := hch
      unfold pm_meC at hme
      rw [decide_eq_true_eq] at hme
      obtain ⟨hv, hM⟩ := hC m2 as M v M1 hCall hlt
      unfold pm_rc at hrc
      rw [hst] at hrc
      dsimp only at hrc
      split at hrc
      · rename_i a As
        split at hrc
        · rename_i ci fks hsh
          have hci2 : ci = (pm_me m2).2.2.2.2.2 := by simpa using hrc
          subst hci2
          obtain ⟨q0, hq0, hq1⟩ := Option.map_eq_some_iff.mp hci
          have hpar : (parseMethodDescriptor (pm_me m2).1.desc).map (fun d => d.parameters.length) = some As.length := by
            cases hp : parseMethodDescriptor (pm_me m2).1.desc with
            | none => rw [hp] at hps; cases hps
            | some sg =>
              rw [hp] at hps
              simp only [Option.map_some, Option.some.injEq] at hps ⊢
              have : As.length + 1 = sg.parameters.length + 1 := hlen.trans hps.symm
              omega
          have hcw : CallW R s args own (pm_me m2).1.cls i (pm_me m2).1 (pm_me m2).2.1 (pm_me m2).2.2.1 (pm_me m2).2.2.2.1 (pm_wsm m2) (pm_rm d) 0 0 As.length :=
            cwV As.length hts (pm_Ws_good (fun w hw => by
              unfold wsV at hw
              simp only [List.cons_append, List.nil_append, List.mem_cons] at hw
              rcases hw with rfl | rfl | rfl | rfl | hw
              · exact pm_w_ok h1
              · exact pm_w_ok h2
              · exact pm_w_ok h3
              · exact pm_w_ok h4
              · exact hWs m2 (pm_w_ok h5) w hw)) rfl rfl rfl ⟨rfl, hme.1, hme.2, hpar⟩ ⟨hR.1, by have := hmax m2 hlt; show 8 + ((pm_me m2).2.2.1 + 11) + 60 * d ≤ R.locals; omega⟩
          have hrecv := va_recv hK hP hq0 (pm_W_get hsh)
          rw [hq1] at hrecv
          have hrun := va_runV (p := p) (l := l) (e := e) (R := R) (s := s) (m := m) (args := args) (below := below) (meth := meth) (c := c) (H := H) (locs := locs) (cells := cells) (slots := slots) (As := As.map (pm_cv ad)) (rest := rest.map (pm_cv ad)) (b := ad a) (g := F0 m pc ls (((Value.ref a :: As).map (pm_cv ad)).reverse ++ rest.map (pm_cv ad)))
            ⟨hx, hb, hml, hown, hts⟩ (hM D ad cA H.size) hcw ⟨pm_blind, hrecv, fun U hU hW => ⟨rfl, pm_bs_of C0 hP hD hS hU hW⟩⟩ rfl (List.length_map _) hl.1 (by simp [pm_cv]) (lv_room (by rw [pm_cv_sum]; exact hsum)) hd ⟨hR.2.2.1, hR.2.2.2⟩
          exact pm_after (M := M) (hv ad) hA hrun hD hS hl k
        · cases hrc
      · cases hrc
    · cases hch
  | invokestatic i =>
    rw [Bool.and_eq_true, beq_iff_eq] at hch
    obtain ⟨rfl, hch⟩ := hch
    split at hch
    · cases hcal
      exact absurd hCall (hm1000 _ (Nat.le_refl _))
    · cases hcal
      exact absurd hCall (hm1000 _ (by omega))
    · cases hcal
      exact absurd hCall (hm1000 _ (by omega))
    · rename_i m2' na' p1 p2 p3 p4 hnot1 hnot2 hnot3
      cases hcal
      simp only [Bool.and_eq_true, decide_eq_true_eq] at hch
      obtain ⟨⟨⟨⟨⟨⟨⟨hme, hlt⟩, hst⟩, hps⟩, h1⟩, h2⟩, h3⟩, h4⟩ := hch
      unfold pm_meC at hme
      rw [decide_eq_true_eq] at hme
      obtain ⟨hv, hM⟩ := hC m2 as M v M1 hCall hlt
      have hpar : (parseMethodDescriptor (pm_me m2).1.desc).map (fun d => d.parameters.length) = some as.length := by rw [hps, hlen]
      have hcw : CallB R s args own i (pm_me m2).1 (pm_me m2).2.1 (pm_me m2).2.2.1 (pm_me m2).2.2.2.1 (pm_wsm m2) (pm_rm d) 0 0 as.length ∧ (Cond.static (pm_me m2).1).before args s = true :=
        va_cwS as.length hts (pm_Ws_good (fun w hw => by
          unfold va_wsS at hw
          simp only [List.cons_append, List.nil_append, List.mem_cons] at hw
          rcases hw with rfl | rfl | rfl | hw
          · exact pm_w_ok h1
          · exact pm_w_ok h2
          · exact pm_w_ok h3
          · exact hWs m2 (pm_w_ok h4) w hw)) rfl rfl rfl ⟨hme.1, hme.2, hpar⟩ ⟨hR.1, by have := hmax m2 hlt; show 8 + ((pm_me m2).2.2.1 + 11) + 60 * d ≤ R.locals; omega⟩
      have hrun := va_runS (p := p) (l := l) (e := e) (R := R) (s := s) (m := m) (args := args) (below := below) (meth := meth) (c := c) (H := H) (locs := locs) (cells := cells) (slots := slots) (As := as.map (pm_cv ad)) (rest := rest.map (pm_cv ad)) (g := F0 m pc ls ((as.map (pm_cv ad)).reverse ++ rest.map (pm_cv ad)))
        ⟨hx, hb, hml, hown, hts⟩ (hM D ad cA H.size) hcw ⟨pm_blind, fun U hU hW => ⟨rfl, pm_bs_of C0 hP hD hS hU hW⟩⟩ rfl (List.length_map _) hl.1 rfl (lv_room (by rw [pm_cv_sum]; exact hsum)) hd ⟨hR.2.2.1, hR.2.2.2⟩
      exact pm_after (M := M) (hv ad) hA hrun hD hS hl k
    · rename_i m2' na' p1 p2 p3 p4
      cases hcal
      simp only [Bool.and_eq_true, decide_eq_true_eq] at hch
      obtain ⟨⟨⟨⟨⟨⟨⟨hme, hlt⟩, hst⟩, hps⟩, h1⟩, h2⟩, h3⟩, h4⟩ := hch
      unfold pm_meC at hme
      rw [decide_eq_true_eq] at hme
      obtain ⟨hv, hM⟩ := hC m2 as M v M1 hCall hlt
      have hpar : (parseMethodDescriptor (pm_me m2).1.desc).map (fun d => d.parameters.length) = some as.length := by rw [hps, hlen]
      have hcw := va_cnB (R := R) (s := s) (args := args) (own := own) (index := i) (host := "PalletRounds") (rm := pm_rm d) (ws := pm_wsm m2) as.length hts (pm_Ws_good (hWs m2 (pm_w_ok h4))) rfl rfl rfl (hN _ h1) (hts _ (pm_w_ok h3)) ⟨hme.1, hme.2, hpar⟩ ⟨hR.1, by have := hmax m2 hlt; show 8 + ((pm_me m2).2.2.1 + 11) + 60 * d ≤ R.locals; omega⟩
      have hrun := va_runSN (p := p) (l := l) (e := e) (R := R) (s := s) (m := m) (args := args) (below := below) (meth := meth) (c := c) (H := H) (locs := locs) (cells := cells) (slots := slots) (As := as.map (pm_cv ad)) (rest := rest.map (pm_cv ad)) (g := F0 m pc ls ((as.map (pm_cv ad)).reverse ++ rest.map (pm_cv ad)))
        ⟨hx, hb, hml, hown, hts⟩ (hM D ad cA H.size) ⟨hcw, hts _ (pm_w_ok h2), trivial⟩ ⟨pm_blind, fun U hU hW => ⟨rfl, pm_bs_of C0 hP hD hS hU hW⟩⟩ rfl (List.length_map _) hl.1 rfl (lv_room (by rw [pm_cv_sum]; exact hsum)) hd ⟨hR.2.2.1, hR.2.2.2⟩
      exact pm_after (M := M) (hv ad) hA hrun hD hS hl k
    · cases hch
  | _ => cases hcal
theorem pm_stp_ok {T : pm_Tb} {C : pm_CR} {σ σ' : pm_St} (C0 : pm_Cx p R s m args c cells slots own cc nL d X D ad cA A) (hC : pm_CM l C d) (h1000 : ∀ m3 as M v M', 1000 ≤ m3 → ¬ C m3 as M v M') (hmax : ∀ mid, mid + 1 < pm_MT.length → (pm_me mid).2.2.1 ≤ 30)
    (hT : ∀ pc e, pm_lk T pc = some e → pm_chE own nL cc pc e = true) (h : pm_Stp X C T σ σ') (k : pm_Ok p l e R s m args below meth c cells slots Q nL D ad cA A σ') : pm_Ok p l e R s m args below meth c cells slots Q nL D ad cA A σ := by
  rcases h with h | h | h
  · unfold pm_step at h
    obtain ⟨pc, al, st, M⟩ := σ
    dsimp only at h
    split at h
    · rename_i e0 he0
      exact pm_ex_ok C0 (hT _ _ he0) h k
    · cases h
  · obtain ⟨h1, h2, h3⟩ := h
    obtain ⟨pc, al, st, M⟩ := σ
    obtain ⟨pc', al', st', M'⟩ := σ'
    dsimp only at h1 h2 h3
    cases h1
    cases h2
    intro H locs ls hP hD hS hl
    exact k H locs ls hP hD hS ⟨hl.1, hl.2.1, fun i v hv => hl.2.2 i v (h3 i v hv)⟩
  · obtain ⟨e0, m2, n, as, rest, v, M1, q1, q2, q3, q4, q5, q6, q7, rfl⟩ := h
    exact pm_call_ok C0 hC (hT _ _ q1) q2 q3 q4 q5 q6 q7 (fun m3 h3 => h1000 m3 _ _ _ _ h3) hmax k
theorem pm_rch_ok {T : pm_Tb} {C : pm_CR} (C0 : pm_Cx p R s m args c cells slots own cc nL d X D ad cA A) (hC : pm_CM l C d) (h1000 : ∀ m3 as M v M', 1000 ≤ m3 → ¬ C m3 as M v M') (hmax : ∀ mid, mid + 1 < pm_MT.length → (pm_me mid).2.2.1 ≤ 30)
    (hT : ∀ pc e, pm_lk T pc = some e → pm_chE own nL cc pc e = true) : ∀ (n : Nat) (σ σ' : pm_St), pm_Rch X C T n σ σ' → pm_Ok p l e R s m args below meth c cells slots Q nL D ad cA A σ' → pm_Ok p l e R s m args below meth c cells slots Q nL D ad cA A σ
  | 0, σ, σ', h, k => by
    have : σ = σ' := h
    subst this
    exact k
  | n + 1, σ, σ', h, k => by
    obtain ⟨τ, h1, h2⟩ := h
    exact pm_stp_ok C0 hC h1000 hmax hT h1 (pm_rch_ok C0 hC h1000 hmax hT n τ σ' h2 k)
end PMR
theorem pm_lk_mem {T : pm_Tb} {pc : Nat} {e : pm_E} (h : pm_lk T pc = some e) : ∃ l ∈ T, (pc, e) ∈ l := by
  unfold pm_lk at h
  split at h
  · rename_i l hl
    refine ⟨l, List.mem_of_getElem? hl, ?_⟩
    clear hl
    induction l with
    | nil => cases h
    | cons q l ih =>
      obtain ⟨a, b⟩ := q
      rw [List.lookup_cons] at h
      split at h
      · rename_i hq
        have : pc = a := by simpa using hq
        subst this
        cases h
        exact List.mem_cons_self
      · exact List.mem_cons_of_mem _ (ih h)
  · cases h
theorem pm_chM_T {mid : Nat} (h : pm_chM mid = true) : ∀ pc e, pm_lk (pm_tb mid) pc = some e → pm_chE (pm_me mid).1.cls (pm_me mid).2.2.1 (pm_me mid).2.1 pc e = true := by
  intro pc e he
  unfold pm_chM at h
  simp only [Bool.and_eq_true, List.all_eq_true] at h
  obtain ⟨l, hl, hq⟩ := pm_lk_mem he
  exact h.2 l hl (pc, e) hq
theorem pm_ret_v {T : pm_Tb} {ret : Option FieldType} {σ : pm_St} {v : Option Value} {M : pm_M} (h : pm_Ret T ret σ v M) (ad : Nat → Nat) (x : Value) (hx : v = some x) : pm_cv ad x = x := by
  obtain ⟨e, h1, h2, h3⟩ := h
  unfold pm_RetE at h3
  split at h3
  · obtain ⟨y, -, q, -⟩ := h3
    rw [hx] at q; cases q; rfl
  · obtain ⟨y, -, q, -⟩ := h3
    rw [hx] at q; cases q; rfl
  · rw [hx] at h3; cases h3.2.1
  · exact h3.elim
theorem pm_tb_1000 {m : Nat} (h : 1000 ≤ m) : pm_tb m = [] := by
  unfold pm_tb
  rw [List.getD_eq_getElem?_getD, List.getElem?_eq_none]
  · rfl
  · have : pm_TT.length ≤ 1000 := by decide +kernel
    omega
theorem pm_Ev_1000 : ∀ d m as M v M', 1000 ≤ m → ¬ pm_Ev d m as M v M'
  | 0, _, _, _, _, _, _, h => h
  | d + 1, m, as, M, v, M', hm, h => by
    obtain ⟨-, n, σ, -, e, he, -⟩ := h
    rw [pm_tb_1000 hm] at he
    simp [pm_lk] at he
set_option maxHeartbeats 4000000 in
theorem pm_met (l : Launch) (hall : ∀ mid, mid + 1 < pm_MT.length → pm_chM mid = true) : ∀ d, pm_CM l (pm_Ev d) d
  | 0 => fun _ _ _ _ _ h => h.elim
  | d + 1 => by
    have ih := pm_met l hall d
    have hmax : ∀ mid, mid + 1 < pm_MT.length → (pm_me mid).2.2.1 ≤ 30 := by
      intro mid h
      have := hall mid h
      unfold pm_chM at this
      simp only [Bool.and_eq_true, decide_eq_true_eq] at this
      exact this.1.1
    intro mid as M v M' hEv hmid
    obtain ⟨hlen, n, σ, hR, hRet⟩ := hEv
    have hch := hall mid hmid
    have hT := pm_chM_T hch
    have hplain : plainName (pm_me mid).1.cls = true := by
      unfold pm_chM at hch
      simp only [Bool.and_eq_true] at hch
      exact hch.1.2
    refine ⟨pm_ret_v hRet, fun D ad cA sz => ?_⟩
    refine Met.ofW (cc := (pm_me mid).2.1) (maxL := (pm_me mid).2.2.1) (ret := (pm_me mid).2.2.2.1) hplain rfl ?_
    intro p e s m args below meth c s₁ B hml hv
    obtain ⟨rfl, hsz, hP, hK, hD0, hZ, hN⟩ := hv
    have hx := B.exec
    have hb := B.bytes
    have hr := B.returns
    have hts := atoms_spec (ws := pm_wsm mid) B.pre
    have hown : s.vm.findClass (pm_me mid).1.cls = some m.cls := findClass_of_methodNamed B.named
    have hlocks := B.notSynchronized
    subst hsz
    have hD := hD0.self (sz := s.heap.size)
    have hS : va_S (va_A (pm_W ad cA M) s.heap.size) s.heap s.heap [] := va_S.rf
    have hA : ∀ q : Nat, s.heap.size ≤ q → va_A (pm_W ad cA M) s.heap.size q := fun q h => Or.inr h
    have hl := lv_entry (as.map (pm_cv ad)) (n := (pm_me mid).2.2.1) (by
      rw [pm_en_len]
      rw [← hlen]
      unfold pm_en
      rw [List.length_append]
      omega)
    rw [lg_entry_eq]
    have C0 : pm_Cx p (headSpec (pm_wsm mid) (pm_rm (d + 1))).room s m (as.map (pm_cv ad)).toArray c 0 0 (pm_me mid).1.cls (pm_me mid).2.1 (pm_me mid).2.2.1 d none D ad cA (va_A (pm_W ad cA M) s.heap.size) :=
      ⟨hx, hb, hml, hown, fun w hw => hts w (List.mem_cons_of_mem _ hw), hN, hK, hZ, hA, ⟨Nat.le_refl _, Nat.le_refl _, Nat.le_refl _, Nat.le_refl _⟩, fun _ _ h => by cases h⟩
    refine pm_rch_ok C0 ih (pm_Ev_1000 d) hmax hT n _ σ hR ?_ s.heap [] _ hP hD hS (pm_hl_en hl)
    intro H locs ls hP1 hD1 hS1 hl1
    obtain ⟨e0, he0, rfl, hre⟩ := hRet
    have hc0 := hT _ _ he0
    obtain ⟨ins, ln, aux, vv⟩ := e0
    unfold pm_chE at hc0
    rw [Bool.and_eq_true, decide_eq_true_eq] at hc0
    obtain ⟨hd, hc1⟩ := hc0
    unfold pm_RetE at hre
    dsimp only at hre hd hc1
    split at hre
    · obtain ⟨x, hst, rfl, hret⟩ := hre
      have hn : ln = 1 := by simpa using hc1
      subst hn
      rw [hst]
      rcases hret with hret | ⟨hret, hbo⟩
      · rw [hret] at hr
        exact W.iret hx hb hr (fun t ht hW => ⟨⟨rfl, by rw [ht]; exact hP1⟩, hS1.F ht⟩) hS1.2.2 hd
      · rw [hret] at hr
        exact W.zret hx hb hr (by rcases hbo with rfl | rfl <;> rfl) (fun t ht hW => ⟨⟨rfl, by rw [ht]; exact hP1⟩, hS1.F ht⟩) hS1.2.2 hd
    · obtain ⟨x, hst, rfl, hret⟩ := hre
      have hn : ln = 1 := by simpa using hc1
      subst hn
      rw [hst]
      rw [hret] at hr
      exact W.lret hx hb hr (fun t ht hW => ⟨⟨rfl, by rw [ht]; exact hP1⟩, hS1.F ht⟩) hS1.2.2 hd
    · obtain ⟨hst, rfl, hret⟩ := hre
      have hn : ln = 1 := by simpa using hc1
      subst hn
      rw [hst]
      rw [hret] at hr
      exact W.vret hx hb hr (fun t ht hW => ⟨⟨rfl, by rw [ht]; exact hP1⟩, hS1.F ht⟩) hS1.2.2 hd
    · exact hre.elim
