/-! THE CONSTRUCTORS, by the kit's rows -/
theorem pm_uq {D : va_G} {cl : List vw_C} {tys : List (ClassId × FieldType)} {U : State} {c c' : ClassId} {ty : FieldType} {i j : Nat} (h : va_K D cl tys U) (h1 : tys[i]? = some (c, ty)) (h2 : tys[j]? = some (c', ty)) : c = c' := by
  have a := (h.2 i _ h1).2
  have b := (h.2 j _ h2).2
  cases ty with
  | object C =>
    obtain ⟨_, _, _, _, _, a4⟩ := a
    obtain ⟨_, _, _, _, _, b4⟩ := b
    exact Option.some.inj (a4.symm.trans b4)
  | _ => exact Option.some.inj (Eq.trans (Eq.symm a) b)
theorem pm_cin {i : Nat} {y : MethodName} {b : ByteArray} {n : Nat} {r : Option FieldType} (h : pm_w i (.code y b n r) = true) : ∀ w ∈ (.code y b n r :: pm_Ws), w ∈ pm_Ws := by
  intro w hw
  rcases List.mem_cons.mp hw with rfl | hw
  · exact pm_w_ok h
  · exact hw
theorem pm_cblind {as : List Value} {D : va_G} {cl : List vw_C} {ws : va_W} {tys : List (ClassId × FieldType)} {sz : Nat} : FrameBlind (va_Pc as (fun U => U.heap.size = sz ∧ va_P D cl ws U.heap ∧ va_K D cl tys U ∧ va_D (fun _ => True) ws)) := by
  intro a U g mk q
  obtain ⟨q0, q1, q2, q3, q4⟩ := q
  exact ⟨q0, q1, q2, va_K.moved (u := U) (U := U.calling g mk a) (Vm.Alike.refl U.vm) q3, q4⟩
def pm_cnests : List Jvm.Cond := [.methodLinkNest "PalletRounds" 25 yX4_init "PalletRounds", .methodLinkNest "PalletRounds" 32 yX2_init "PalletRounds", .methodLinkNest "PalletRounds" 39 yX5_init "PalletRounds", .methodLinkNest "PalletRounds" 46 yX3_init "PalletRounds", .methodLinkNest "PalletRounds" 61 yX1_init "PalletRounds"]
theorem pm_cnest_cases {w : Jvm.Cond} (h : w ∈ pm_cnests) : ∃ a i x g, w = .methodLinkNest a i x g := by
  unfold pm_cnests at h
  simp only [List.mem_cons, List.not_mem_nil, or_false] at h
  rcases h with rfl | rfl | rfl | rfl | rfl <;> exact ⟨_, _, _, _, rfl⟩
theorem pm_cnest_warm {w : Jvm.Cond} {s U : State} (hw : w ∈ pm_cnests) (hW : s.WarmedH U.vm) (hZ : va_Nw w s) : va_Nw w U := by
  obtain ⟨a, i, x, g, rfl⟩ := pm_cnest_cases hw
  exact va_Nw.warmM hW hZ
theorem pm_cblind2 {as : List Value} {D : va_G} {cl : List vw_C} {ws : va_W} {tys : List (ClassId × FieldType)} {sz : Nat} : FrameBlind (va_Pc as (fun U => U.heap.size = sz ∧ va_P D cl ws U.heap ∧ va_K D cl tys U ∧ va_D (fun _ => True) ws ∧ (va_AO "PalletRounds$Sheet" U ∧ ∀ w ∈ pm_cnests, va_Nw w U))) := by
  intro a U g mk q
  obtain ⟨q0, q1, q2, q3, q4, q5, q6⟩ := q
  exact ⟨q0, q1, q2, va_K.moved (u := U) (U := U.calling g mk a) (Vm.Alike.refl U.vm) q3, q4, va_AO.moved (u := U) (U := U.calling g mk a) (Vm.Alike.refl U.vm) q5, fun w hw => by
    obtain ⟨a1, i, x, g1, rfl⟩ := pm_cnest_cases hw
    exact va_Nw.same (u := U) (U := U.calling g mk a) rfl rfl (q6 _ hw)⟩
abbrev at_ci_J7 (dC : Nat → ClassId) (dI : Nat → Nat → Nat) (A : Nat → Prop) (h0 : Nat) (cA0 : ClassId) (f0 : Nat → Int32) (_ : Unit) (t : State) : Prop := va_P (dC, dI) vwCl [(h0, .inl (cA0, 2, .inl (upd ((upd (f0) 0 (-1))) 1 (-1))))] t.heap ∧ va_K (dC, dI) vwCl [(cA0, .int)] t ∧ va_D A [(h0, .inl (cA0, 2, .inl (upd ((upd (f0) 0 (-1))) 1 (-1))))]
set_option maxHeartbeats 4000000 in
set_option maxRecDepth 100000 in
theorem ci_J7 (l : Launch) (dC : Nat → ClassId) (dI : Nat → Nat → Nat) (h0 : Nat) (sz : Nat) (cA0 : ClassId) (f0 : Nat → Int32) : Met l yJ7_fill_53178 (.code yJ7_fill_53178 prog_14_method_103_code 4 none :: pm_Ws) ({ frames := 0, cells := 0, slots := 0, locals := 40 } : Room) (va_Pc [.ref h0, .int (-1)] (fun U => U.heap.size = sz ∧ va_P (dC, dI) vwCl [(h0, .inl (cA0, 2, .inl f0))] U.heap ∧ va_K (dC, dI) vwCl [(cA0, .int)] U ∧ va_D (fun _ => True) [(h0, .inl (cA0, 2, .inl f0))])) (va_Qv (fun _ : Unit => True) (at_ci_J7 dC dI (va_A [(h0, .inl (cA0, 2, .inl f0))] sz) h0 cA0 f0) (va_A [(h0, .inl (cA0, 2, .inl f0))] sz)) 0 0 (va_A [(h0, .inl (cA0, 2, .inl f0))] sz) := by
  refine Met.ofW (cc := prog_14_method_103_code) (maxL := 4) (ret := none) (by decide) rfl ?_
  intro p e s m args below meth c s₁ B hml hv
  obtain ⟨rfl, hsz, hP, hK, hD0⟩ := hv
  have hx := B.exec
  have hb := B.bytes
  have hr := B.returns
  have hts0 := atoms_spec (ws := .code yJ7_fill_53178 prog_14_method_103_code 4 none :: pm_Ws) B.pre
  have hts : ∀ w ∈ pm_Ws, w.before _ s = true := fun w hw => hts0 w (List.mem_cons_of_mem _ hw)
  have hw : ∀ (i : Nat) (w : Jvm.Cond), pm_w i w = true → w.before _ s = true := fun i w h => pm_w_word hts h
  have hown : s.vm.findClass "java/util/Arrays" = some m.cls := findClass_of_methodNamed B.named
  have hlocks := B.notSynchronized
  subst hsz
  have hD := hD0.self (sz := s.heap.size)
  generalize hAe : va_A [(h0, .inl (cA0, 2, .inl f0))] s.heap.size = A at hD ⊢
  have hA : ∀ q : Nat, s.heap.size ≤ q → A q := fun q h => by rw [← hAe]; exact Or.inr h
  have hS : va_S A s.heap s.heap [] := va_S.rf
  have hP : va_P (dC, dI) vwCl [(h0, .inl (cA0, 2, .inl f0))] s.heap := hP
  have hl := lv_entry ([.ref h0, .int (-1)]) (n := 4) (Nat.le_of_ble_eq_true rfl)
  rw [lg_entry_eq]
  generalize (lg_sl ([.ref h0, .int (-1)]) ++ List.replicate (4 - (lg_sl ([.ref h0, .int (-1)])).length) Slot.unset).toArray = ls at hl ⊢
  have hl : lv_has ls 4 [(0, .ref h0), (1, .int (-1))] := hl
  refine lv_iconst (v := 0) hx hb (show decode prog_14_method_103_code 0 = .ok (.iconst 0, 1) by decide +kernel) (by decide) ?_
  refine lv_istore_n (lv' := [(2, .int (0)), (0, .ref h0), (1, .int (-1))]) hx hb (show decode prog_14_method_103_code 1 = .ok (.istore_n 2, 1) by decide +kernel) rfl hl (by decide) rfl (fun ls hl => ?_)
  refine lv_aload_n hx hb (show decode prog_14_method_103_code 2 = .ok (.aload_n 0, 1) by decide +kernel) rfl (lv_at hl 1 rfl) ?_
  refine va_alen hx hb hK hP 0 0 rfl rfl (v := 2) rfl (show decode prog_14_method_103_code 3 = .ok (.arraylength, 1) by decide +kernel) ?_
  refine lv_istore_n (lv' := [(3, .int (2)), (2, .int (0)), (0, .ref h0), (1, .int (-1))]) hx hb (show decode prog_14_method_103_code 4 = .ok (.istore_n 3, 1) by decide +kernel) rfl hl (by decide) rfl (fun ls hl => ?_)
  refine lv_iload_n hx hb (show decode prog_14_method_103_code 5 = .ok (.iload_n 2, 1) by decide +kernel) rfl (lv_at hl 1 rfl) ?_
  refine lv_iload_n hx hb (show decode prog_14_method_103_code 6 = .ok (.iload_n 3, 1) by decide +kernel) rfl (lv_at hl 0 rfl) ?_
  refine lv_icmp_ge (tgt := 20) hx hb (show decode prog_14_method_103_code 7 = .ok (.if_icmp .ge 13, 3) by decide +kernel) (by decide) (fun c9 => absurd c9 (by decide)) (fun _ => ?_)
  refine lv_aload_n hx hb (show decode prog_14_method_103_code 10 = .ok (.aload_n 0, 1) by decide +kernel) rfl (lv_at hl 2 rfl) ?_
  refine lv_iload_n hx hb (show decode prog_14_method_103_code 11 = .ok (.iload_n 2, 1) by decide +kernel) rfl (lv_at hl 1 rfl) ?_
  refine lv_iload_n hx hb (show decode prog_14_method_103_code 12 = .ok (.iload_n 1, 1) by decide +kernel) rfl (lv_at hl 3 rfl) ?_
  refine va_iast hx hb hK hP hD hS 0 0 rfl rfl (pm_in_vp (by decide)) (show decode prog_14_method_103_code 13 = .ok (.iastore, 1) by decide +kernel) (fun H locs hP hD hS => ?_)
  have hP : va_P (dC, dI) vwCl [(h0, .inl (cA0, 2, .inl (upd (f0) 0 (-1))))] H := hP
  have hD : va_D A [(h0, .inl (cA0, 2, .inl (upd (f0) 0 (-1))))] := hD
  refine lv_iinc (v := 1) (lv' := [(2, .int (1)), (3, .int (2)), (0, .ref h0), (1, .int (-1))]) hx hb (show decode prog_14_method_103_code 14 = .ok (.iinc 2 1, 3) by decide +kernel) hl (k := 1) rfl (by decide) (by decide) rfl (fun ls hl => ?_)
  refine lv_goto (tgt := 5) hx hb (show decode prog_14_method_103_code 17 = .ok (.goto (-12), 3) by decide +kernel) (by decide) ?_
  refine lv_iload_n hx hb (show decode prog_14_method_103_code 5 = .ok (.iload_n 2, 1) by decide +kernel) rfl (lv_at hl 0 rfl) ?_
  refine lv_iload_n hx hb (show decode prog_14_method_103_code 6 = .ok (.iload_n 3, 1) by decide +kernel) rfl (lv_at hl 1 rfl) ?_
  refine lv_icmp_ge (tgt := 20) hx hb (show decode prog_14_method_103_code 7 = .ok (.if_icmp .ge 13, 3) by decide +kernel) (by decide) (fun c9 => absurd c9 (by decide)) (fun _ => ?_)
  refine lv_aload_n hx hb (show decode prog_14_method_103_code 10 = .ok (.aload_n 0, 1) by decide +kernel) rfl (lv_at hl 2 rfl) ?_
  refine lv_iload_n hx hb (show decode prog_14_method_103_code 11 = .ok (.iload_n 2, 1) by decide +kernel) rfl (lv_at hl 0 rfl) ?_
  refine lv_iload_n hx hb (show decode prog_14_method_103_code 12 = .ok (.iload_n 1, 1) by decide +kernel) rfl (lv_at hl 3 rfl) ?_
  refine va_iast hx hb hK hP hD hS 0 0 rfl rfl (pm_in_vp (by decide)) (show decode prog_14_method_103_code 13 = .ok (.iastore, 1) by decide +kernel) (fun H locs hP hD hS => ?_)
  have hP : va_P (dC, dI) vwCl [(h0, .inl (cA0, 2, .inl (upd ((upd (f0) 0 (-1))) 1 (-1))))] H := hP
  have hD : va_D A [(h0, .inl (cA0, 2, .inl (upd ((upd (f0) 0 (-1))) 1 (-1))))] := hD
  refine lv_iinc (v := 2) (lv' := [(2, .int (2)), (3, .int (2)), (0, .ref h0), (1, .int (-1))]) hx hb (show decode prog_14_method_103_code 14 = .ok (.iinc 2 1, 3) by decide +kernel) hl (k := 0) rfl (by decide) (by decide) rfl (fun ls hl => ?_)
  refine lv_goto (tgt := 5) hx hb (show decode prog_14_method_103_code 17 = .ok (.goto (-12), 3) by decide +kernel) (by decide) ?_
  refine lv_iload_n hx hb (show decode prog_14_method_103_code 5 = .ok (.iload_n 2, 1) by decide +kernel) rfl (lv_at hl 0 rfl) ?_
  refine lv_iload_n hx hb (show decode prog_14_method_103_code 6 = .ok (.iload_n 3, 1) by decide +kernel) rfl (lv_at hl 1 rfl) ?_
  refine lv_icmp_ge (tgt := 20) hx hb (show decode prog_14_method_103_code 7 = .ok (.if_icmp .ge 13, 3) by decide +kernel) (by decide) (fun _ => ?_) (fun c9 => absurd (by decide) c9)
  exact W.vret hx hb hr (fun t ht hW => ⟨⟨(), rfl, trivial, by rw [ht]; exact hP, va_K.moved hW.alike hK, hD⟩, hS.F ht⟩) hS.2.2 (show decode prog_14_method_103_code 20 = .ok (.return_, 1) by decide +kernel)
abbrev at_ci_X0 (dC : Nat → ClassId) (dI : Nat → Nat → Nat) (A : Nat → Prop) (h0 : Nat) (_ : Unit) (t : State) : Prop := ∃ (q1 q2 q3 q4 q5 q6 : Nat) (c1 c6 : ClassId), va_P (dC, dI) vwCl [(h0, .inr (0, [.int (0), .ref q1, .ref q2, .ref q3, .ref q4, .ref q5, .ref q6])), (q1, .inl (c1, 5, .inl (fun _ => 0))), (q2, .inl (c1, 10, .inl (fun _ => 0))), (q3, .inl (c1, 2, .inl (upd (upd ((fun _ => 0)) 0 (-1)) 1 (-1)))), (q4, .inl (c1, 2, .inl (fun _ => 0))), (q5, .inl (c1, 50, .inl (fun _ => 0))), (q6, .inl (c6, 2, .inr (.inl (fun _ => 0))))] t.heap ∧ va_K (dC, dI) vwCl [(c1, .int), (c6, .long)] t ∧ va_D A [(h0, .inr (0, [.int (0), .ref q1, .ref q2, .ref q3, .ref q4, .ref q5, .ref q6])), (q1, .inl (c1, 5, .inl (fun _ => 0))), (q2, .inl (c1, 10, .inl (fun _ => 0))), (q3, .inl (c1, 2, .inl (upd (upd ((fun _ => 0)) 0 (-1)) 1 (-1)))), (q4, .inl (c1, 2, .inl (fun _ => 0))), (q5, .inl (c1, 50, .inl (fun _ => 0))), (q6, .inl (c6, 2, .inr (.inl (fun _ => 0))))]
set_option maxHeartbeats 4000000 in
set_option maxRecDepth 100000 in
theorem ci_X0 (l : Launch) (dC : Nat → ClassId) (dI : Nat → Nat → Nat) (h0 : Nat) (sz : Nat) : Met l yX0_init (.code yX0_init prog_2_method_1_code 1 none :: pm_Ws) ({ frames := 1, cells := 6, slots := 71, locals := 100 } : Room) (va_Pc [.ref h0] (fun U => U.heap.size = sz ∧ va_P (dC, dI) vwCl [(h0, .inr (0, [.int 0, .null, .null, .null, .null, .null, .null]))] U.heap ∧ va_K (dC, dI) vwCl [] U ∧ va_D (fun _ => True) [(h0, .inr (0, [.int 0, .null, .null, .null, .null, .null, .null]))])) (va_Qv (fun _ : Unit => True) (at_ci_X0 dC dI (va_A [(h0, .inr (0, [.int 0, .null, .null, .null, .null, .null, .null]))] sz) h0) (va_A [(h0, .inr (0, [.int 0, .null, .null, .null, .null, .null, .null]))] sz)) 6 71 (va_A [(h0, .inr (0, [.int 0, .null, .null, .null, .null, .null, .null]))] sz) := by
  refine Met.ofW (cc := prog_2_method_1_code) (maxL := 1) (ret := none) (by decide) rfl ?_
  intro p e s m args below meth c s₁ B hml hv
  obtain ⟨rfl, hsz, hP, hK, hD0⟩ := hv
  have hx := B.exec
  have hb := B.bytes
  have hr := B.returns
  have hts0 := atoms_spec (ws := .code yX0_init prog_2_method_1_code 1 none :: pm_Ws) B.pre
  have hts : ∀ w ∈ pm_Ws, w.before _ s = true := fun w hw => hts0 w (List.mem_cons_of_mem _ hw)
  have hw : ∀ (i : Nat) (w : Jvm.Cond), pm_w i w = true → w.before _ s = true := fun i w h => pm_w_word hts h
  have hown : s.vm.findClass RX0 = some m.cls := findClass_of_methodNamed B.named
  have hlocks := B.notSynchronized
  have hin : meth.name = "<init>" := (name_of_methodNamed B.named B.method).1
  subst hsz
  have hD := hD0.self (sz := s.heap.size)
  generalize hAe : va_A [(h0, .inr (0, [.int 0, .null, .null, .null, .null, .null, .null]))] s.heap.size = A at hD ⊢
  have hA : ∀ q : Nat, s.heap.size ≤ q → A q := fun q h => by rw [← hAe]; exact Or.inr h
  have hS : va_S A s.heap s.heap [] := va_S.rf
  have hP : va_P (dC, dI) vwCl [(h0, .inr (0, [.int 0, .null, .null, .null, .null, .null, .null]))] s.heap := hP
  have hl := lv_entry ([.ref h0]) (n := 1) (Nat.le_of_ble_eq_true rfl)
  rw [lg_entry_eq]
  generalize (lg_sl ([.ref h0]) ++ List.replicate (1 - (lg_sl ([.ref h0])).length) Slot.unset).toArray = ls at hl ⊢
  have hl : lv_has ls 1 [(0, .ref h0)] := hl
  refine lv_aload_n hx hb (show decode prog_2_method_1_code 0 = .ok (.aload_n 0, 1) by decide +kernel) rfl (lv_at hl 0 rfl) ?_
  refine W.objInit hx hb hown (hw 90 _ (by decide +kernel)) (hw 83 _ (by decide +kernel)) (hw 84 _ (by decide +kernel)) rfl (by rw [hml]; exact hl.1) rfl (show decode prog_2_method_1_code 1 = .ok (.invokespecial 3, 3) by decide +kernel) (Nat.le_of_ble_eq_true rfl) (Nat.le_of_ble_eq_true rfl) ?_
  refine W.eq (g2 := F0 m 4 ls []) rfl ?_
  refine lv_aload_n hx hb (show decode prog_2_method_1_code 4 = .ok (.aload_n 0, 1) by decide +kernel) rfl (lv_at hl 0 rfl) ?_
  refine lv_iconst (v := 0) hx hb (show decode prog_2_method_1_code 5 = .ok (.iconst 0, 1) by decide +kernel) (by decide) ?_
  refine va_put (D := (dC, dI)) (ci := 0) (v := .int (0)) (ty := .int) (C := RX0) (T := TX0) (N := 7) hx hb hts (pm_lay_in (ci := 0) rfl) tyX0 tyX0_ok nmX0 hown hK hP hD hS 0 rfl rfl 0 (by decide) (hw 94 _ (by decide +kernel)) (fun _ h9 => h9) rfl (by decide +kernel) rfl rfl (Nat.le_of_ble_eq_true rfl) (show decode prog_2_method_1_code 6 = .ok (.putfield 9, 3) by decide +kernel) (fun H locs hP hD hS => ?_)
  have hP : va_P (dC, dI) vwCl [(h0, .inr (0, [.int (0), .null, .null, .null, .null, .null, .null]))] H := hP
  have hD : va_D A [(h0, .inr (0, [.int (0), .null, .null, .null, .null, .null, .null]))] := hD
  refine lv_aload_n hx hb (show decode prog_2_method_1_code 9 = .ok (.aload_n 0, 1) by decide +kernel) rfl (lv_at hl 0 rfl) ?_
  refine lv_iconst (v := 5) hx hb (show decode prog_2_method_1_code 10 = .ok (.iconst 5, 1) by decide +kernel) (by decide) ?_
  refine va_newa (atype := .int) hx hb (hw 132 _ (by decide +kernel)) rfl hK hP hD hS hA (a0 := (5, .inl (fun _ => 0))) (fun _ => rfl) (by decide) (by decide) (Nat.le_of_ble_eq_true rfl) (Nat.le_of_ble_eq_true rfl) (Nat.le_of_ble_eq_true rfl) (show decode prog_2_method_1_code 11 = .ok (.newarray .int, 2) by decide +kernel) (fun q1 c1 H hK hP hD hS => ?_)
  have hP : va_P (dC, dI) vwCl [(h0, .inr (0, [.int (0), .null, .null, .null, .null, .null, .null])), (q1, .inl (c1, 5, .inl (fun _ => 0)))] H := hP
  have hD : va_D A [(h0, .inr (0, [.int (0), .null, .null, .null, .null, .null, .null])), (q1, .inl (c1, 5, .inl (fun _ => 0)))] := hD
  have hK : va_K (dC, dI) vwCl [(c1, .int)] s := hK
  have hP : va_P (dC, dI) vwCl [(h0, .inr (0, [.int (0), .null, .null, .null, .null, .null, .null])), (q1, .inl (c1, 5, .inl (fun _ => 0)))] H := hP
  have hD : va_D A [(h0, .inr (0, [.int (0), .null, .null, .null, .null, .null, .null])), (q1, .inl (c1, 5, .inl (fun _ => 0)))] := hD
  refine va_putF (D := (dC, dI)) (ci := 0) (v := .ref q1) (ty := .array .int) (C := RX0) (T := TX0) (N := 7) hx hb hts (pm_lay_in (ci := 0) rfl) tyX0 tyX0_ok nmX0 hown hK hP hD hS 0 rfl rfl 1 (by decide) (hw 99 _ (by decide +kernel)) (fun _ h9 => h9) rfl hin rfl (by decide +kernel) rfl rfl (Nat.le_of_ble_eq_true rfl) (show decode prog_2_method_1_code 13 = .ok (.putfield 15, 3) by decide +kernel) (fun H locs hP hD hS => ?_)
  have hP : va_P (dC, dI) vwCl [(h0, .inr (0, [.int (0), .ref q1, .null, .null, .null, .null, .null])), (q1, .inl (c1, 5, .inl (fun _ => 0)))] H := hP
  have hD : va_D A [(h0, .inr (0, [.int (0), .ref q1, .null, .null, .null, .null, .null])), (q1, .inl (c1, 5, .inl (fun _ => 0)))] := hD
  refine lv_aload_n hx hb (show decode prog_2_method_1_code 16 = .ok (.aload_n 0, 1) by decide +kernel) rfl (lv_at hl 0 rfl) ?_
  refine lv_bipush (v := 10) hx hb (show decode prog_2_method_1_code 17 = .ok (.bipush 10, 2) by decide +kernel) (by decide) ?_
  refine va_newa (atype := .int) hx hb (hw 132 _ (by decide +kernel)) rfl hK hP hD hS hA (a0 := (10, .inl (fun _ => 0))) (fun _ => rfl) (by decide) (by decide) (Nat.le_of_ble_eq_true rfl) (Nat.le_of_ble_eq_true rfl) (Nat.le_of_ble_eq_true rfl) (show decode prog_2_method_1_code 19 = .ok (.newarray .int, 2) by decide +kernel) (fun q2 c2 H hK hP hD hS => ?_)
  have hP : va_P (dC, dI) vwCl [(h0, .inr (0, [.int (0), .ref q1, .null, .null, .null, .null, .null])), (q1, .inl (c1, 5, .inl (fun _ => 0))), (q2, .inl (c2, 10, .inl (fun _ => 0)))] H := hP
  have hD : va_D A [(h0, .inr (0, [.int (0), .ref q1, .null, .null, .null, .null, .null])), (q1, .inl (c1, 5, .inl (fun _ => 0))), (q2, .inl (c2, 10, .inl (fun _ => 0)))] := hD
  have hK : va_K (dC, dI) vwCl [(c1, .int), (c2, .int)] s := hK
  have e9 := pm_uq hK (i := 0) (j := 1) rfl rfl
  subst e9
  have hK := hK.sub (tys' := [(c1, .int)]) [0] rfl
  have hP : va_P (dC, dI) vwCl [(h0, .inr (0, [.int (0), .ref q1, .null, .null, .null, .null, .null])), (q1, .inl (c1, 5, .inl (fun _ => 0))), (q2, .inl (c1, 10, .inl (fun _ => 0)))] H := hP
  have hD : va_D A [(h0, .inr (0, [.int (0), .ref q1, .null, .null, .null, .null, .null])), (q1, .inl (c1, 5, .inl (fun _ => 0))), (q2, .inl (c1, 10, .inl (fun _ => 0)))] := hD
  refine va_putF (D := (dC, dI)) (ci := 0) (v := .ref q2) (ty := .array .int) (C := RX0) (T := TX0) (N := 7) hx hb hts (pm_lay_in (ci := 0) rfl) tyX0 tyX0_ok nmX0 hown hK hP hD hS 0 rfl rfl 2 (by decide) (hw 103 _ (by decide +kernel)) (fun _ h9 => h9) rfl hin rfl (by decide +kernel) rfl rfl (Nat.le_of_ble_eq_true rfl) (show decode prog_2_method_1_code 21 = .ok (.putfield 19, 3) by decide +kernel) (fun H locs hP hD hS => ?_)
  have hP : va_P (dC, dI) vwCl [(h0, .inr (0, [.int (0), .ref q1, .ref q2, .null, .null, .null, .null])), (q1, .inl (c1, 5, .inl (fun _ => 0))), (q2, .inl (c1, 10, .inl (fun _ => 0)))] H := hP
  have hD : va_D A [(h0, .inr (0, [.int (0), .ref q1, .ref q2, .null, .null, .null, .null])), (q1, .inl (c1, 5, .inl (fun _ => 0))), (q2, .inl (c1, 10, .inl (fun _ => 0)))] := hD
  refine lv_aload_n hx hb (show decode prog_2_method_1_code 24 = .ok (.aload_n 0, 1) by decide +kernel) rfl (lv_at hl 0 rfl) ?_
  refine lv_iconst (v := 2) hx hb (show decode prog_2_method_1_code 25 = .ok (.iconst 2, 1) by decide +kernel) (by decide) ?_
  refine va_newa (atype := .int) hx hb (hw 132 _ (by decide +kernel)) rfl hK hP hD hS hA (a0 := (2, .inl (fun _ => 0))) (fun _ => rfl) (by decide) (by decide) (Nat.le_of_ble_eq_true rfl) (Nat.le_of_ble_eq_true rfl) (Nat.le_of_ble_eq_true rfl) (show decode prog_2_method_1_code 26 = .ok (.newarray .int, 2) by decide +kernel) (fun q3 c3 H hK hP hD hS => ?_)
  have hP : va_P (dC, dI) vwCl [(h0, .inr (0, [.int (0), .ref q1, .ref q2, .null, .null, .null, .null])), (q1, .inl (c1, 5, .inl (fun _ => 0))), (q2, .inl (c1, 10, .inl (fun _ => 0))), (q3, .inl (c3, 2, .inl (fun _ => 0)))] H := hP
  have hD : va_D A [(h0, .inr (0, [.int (0), .ref q1, .ref q2, .null, .null, .null, .null])), (q1, .inl (c1, 5, .inl (fun _ => 0))), (q2, .inl (c1, 10, .inl (fun _ => 0))), (q3, .inl (c3, 2, .inl (fun _ => 0)))] := hD
  have hK : va_K (dC, dI) vwCl [(c1, .int), (c3, .int)] s := hK
  have e9 := pm_uq hK (i := 0) (j := 1) rfl rfl
  subst e9
  have hK := hK.sub (tys' := [(c1, .int)]) [0] rfl
  have hP : va_P (dC, dI) vwCl [(h0, .inr (0, [.int (0), .ref q1, .ref q2, .null, .null, .null, .null])), (q1, .inl (c1, 5, .inl (fun _ => 0))), (q2, .inl (c1, 10, .inl (fun _ => 0))), (q3, .inl (c1, 2, .inl (fun _ => 0)))] H := hP
  have hD : va_D A [(h0, .inr (0, [.int (0), .ref q1, .ref q2, .null, .null, .null, .null])), (q1, .inl (c1, 5, .inl (fun _ => 0))), (q2, .inl (c1, 10, .inl (fun _ => 0))), (q3, .inl (c1, 2, .inl (fun _ => 0)))] := hD
  refine va_putF (D := (dC, dI)) (ci := 0) (v := .ref q3) (ty := .array .int) (C := RX0) (T := TX0) (N := 7) hx hb hts (pm_lay_in (ci := 0) rfl) tyX0 tyX0_ok nmX0 hown hK hP hD hS 0 rfl rfl 3 (by decide) (hw 105 _ (by decide +kernel)) (fun _ h9 => h9) rfl hin rfl (by decide +kernel) rfl rfl (Nat.le_of_ble_eq_true rfl) (show decode prog_2_method_1_code 28 = .ok (.putfield 22, 3) by decide +kernel) (fun H locs hP hD hS => ?_)
  have hP : va_P (dC, dI) vwCl [(h0, .inr (0, [.int (0), .ref q1, .ref q2, .ref q3, .null, .null, .null])), (q1, .inl (c1, 5, .inl (fun _ => 0))), (q2, .inl (c1, 10, .inl (fun _ => 0))), (q3, .inl (c1, 2, .inl (fun _ => 0)))] H := hP
  have hD : va_D A [(h0, .inr (0, [.int (0), .ref q1, .ref q2, .ref q3, .null, .null, .null])), (q1, .inl (c1, 5, .inl (fun _ => 0))), (q2, .inl (c1, 10, .inl (fun _ => 0))), (q3, .inl (c1, 2, .inl (fun _ => 0)))] := hD
  refine lv_aload_n hx hb (show decode prog_2_method_1_code 31 = .ok (.aload_n 0, 1) by decide +kernel) rfl (lv_at hl 0 rfl) ?_
  refine lv_iconst (v := 2) hx hb (show decode prog_2_method_1_code 32 = .ok (.iconst 2, 1) by decide +kernel) (by decide) ?_
  refine va_newa (atype := .int) hx hb (hw 132 _ (by decide +kernel)) rfl hK hP hD hS hA (a0 := (2, .inl (fun _ => 0))) (fun _ => rfl) (by decide) (by decide) (Nat.le_of_ble_eq_true rfl) (Nat.le_of_ble_eq_true rfl) (Nat.le_of_ble_eq_true rfl) (show decode prog_2_method_1_code 33 = .ok (.newarray .int, 2) by decide +kernel) (fun q4 c4 H hK hP hD hS => ?_)
  have hP : va_P (dC, dI) vwCl [(h0, .inr (0, [.int (0), .ref q1, .ref q2, .ref q3, .null, .null, .null])), (q1, .inl (c1, 5, .inl (fun _ => 0))), (q2, .inl (c1, 10, .inl (fun _ => 0))), (q3, .inl (c1, 2, .inl (fun _ => 0))), (q4, .inl (c4, 2, .inl (fun _ => 0)))] H := hP
  have hD : va_D A [(h0, .inr (0, [.int (0), .ref q1, .ref q2, .ref q3, .null, .null, .null])), (q1, .inl (c1, 5, .inl (fun _ => 0))), (q2, .inl (c1, 10, .inl (fun _ => 0))), (q3, .inl (c1, 2, .inl (fun _ => 0))), (q4, .inl (c4, 2, .inl (fun _ => 0)))] := hD
  have hK : va_K (dC, dI) vwCl [(c1, .int), (c4, .int)] s := hK
  have e9 := pm_uq hK (i := 0) (j := 1) rfl rfl
  subst e9
  have hK := hK.sub (tys' := [(c1, .int)]) [0] rfl
  have hP : va_P (dC, dI) vwCl [(h0, .inr (0, [.int (0), .ref q1, .ref q2, .ref q3, .null, .null, .null])), (q1, .inl (c1, 5, .inl (fun _ => 0))), (q2, .inl (c1, 10, .inl (fun _ => 0))), (q3, .inl (c1, 2, .inl (fun _ => 0))), (q4, .inl (c1, 2, .inl (fun _ => 0)))] H := hP
  have hD : va_D A [(h0, .inr (0, [.int (0), .ref q1, .ref q2, .ref q3, .null, .null, .null])), (q1, .inl (c1, 5, .inl (fun _ => 0))), (q2, .inl (c1, 10, .inl (fun _ => 0))), (q3, .inl (c1, 2, .inl (fun _ => 0))), (q4, .inl (c1, 2, .inl (fun _ => 0)))] := hD
  refine va_putF (D := (dC, dI)) (ci := 0) (v := .ref q4) (ty := .array .int) (C := RX0) (T := TX0) (N := 7) hx hb hts (pm_lay_in (ci := 0) rfl) tyX0 tyX0_ok nmX0 hown hK hP hD hS 0 rfl rfl 4 (by decide) (hw 109 _ (by decide +kernel)) (fun _ h9 => h9) rfl hin rfl (by decide +kernel) rfl rfl (Nat.le_of_ble_eq_true rfl) (show decode prog_2_method_1_code 35 = .ok (.putfield 25, 3) by decide +kernel) (fun H locs hP hD hS => ?_)
  have hP : va_P (dC, dI) vwCl [(h0, .inr (0, [.int (0), .ref q1, .ref q2, .ref q3, .ref q4, .null, .null])), (q1, .inl (c1, 5, .inl (fun _ => 0))), (q2, .inl (c1, 10, .inl (fun _ => 0))), (q3, .inl (c1, 2, .inl (fun _ => 0))), (q4, .inl (c1, 2, .inl (fun _ => 0)))] H := hP
  have hD : va_D A [(h0, .inr (0, [.int (0), .ref q1, .ref q2, .ref q3, .ref q4, .null, .null])), (q1, .inl (c1, 5, .inl (fun _ => 0))), (q2, .inl (c1, 10, .inl (fun _ => 0))), (q3, .inl (c1, 2, .inl (fun _ => 0))), (q4, .inl (c1, 2, .inl (fun _ => 0)))] := hD
  refine lv_aload_n hx hb (show decode prog_2_method_1_code 38 = .ok (.aload_n 0, 1) by decide +kernel) rfl (lv_at hl 0 rfl) ?_
  refine lv_bipush (v := 50) hx hb (show decode prog_2_method_1_code 39 = .ok (.bipush 50, 2) by decide +kernel) (by decide) ?_
  refine va_newa (atype := .int) hx hb (hw 132 _ (by decide +kernel)) rfl hK hP hD hS hA (a0 := (50, .inl (fun _ => 0))) (fun _ => rfl) (by decide) (by decide) (Nat.le_of_ble_eq_true rfl) (Nat.le_of_ble_eq_true rfl) (Nat.le_of_ble_eq_true rfl) (show decode prog_2_method_1_code 41 = .ok (.newarray .int, 2) by decide +kernel) (fun q5 c5 H hK hP hD hS => ?_)
  have hP : va_P (dC, dI) vwCl [(h0, .inr (0, [.int (0), .ref q1, .ref q2, .ref q3, .ref q4, .null, .null])), (q1, .inl (c1, 5, .inl (fun _ => 0))), (q2, .inl (c1, 10, .inl (fun _ => 0))), (q3, .inl (c1, 2, .inl (fun _ => 0))), (q4, .inl (c1, 2, .inl (fun _ => 0))), (q5, .inl (c5, 50, .inl (fun _ => 0)))] H := hP
  have hD : va_D A [(h0, .inr (0, [.int (0), .ref q1, .ref q2, .ref q3, .ref q4, .null, .null])), (q1, .inl (c1, 5, .inl (fun _ => 0))), (q2, .inl (c1, 10, .inl (fun _ => 0))), (q3, .inl (c1, 2, .inl (fun _ => 0))), (q4, .inl (c1, 2, .inl (fun _ => 0))), (q5, .inl (c5, 50, .inl (fun _ => 0)))] := hD
  have hK : va_K (dC, dI) vwCl [(c1, .int), (c5, .int)] s := hK
  have e9 := pm_uq hK (i := 0) (j := 1) rfl rfl
  subst e9
  have hK := hK.sub (tys' := [(c1, .int)]) [0] rfl
  have hP : va_P (dC, dI) vwCl [(h0, .inr (0, [.int (0), .ref q1, .ref q2, .ref q3, .ref q4, .null, .null])), (q1, .inl (c1, 5, .inl (fun _ => 0))), (q2, .inl (c1, 10, .inl (fun _ => 0))), (q3, .inl (c1, 2, .inl (fun _ => 0))), (q4, .inl (c1, 2, .inl (fun _ => 0))), (q5, .inl (c1, 50, .inl (fun _ => 0)))] H := hP
  have hD : va_D A [(h0, .inr (0, [.int (0), .ref q1, .ref q2, .ref q3, .ref q4, .null, .null])), (q1, .inl (c1, 5, .inl (fun _ => 0))), (q2, .inl (c1, 10, .inl (fun _ => 0))), (q3, .inl (c1, 2, .inl (fun _ => 0))), (q4, .inl (c1, 2, .inl (fun _ => 0))), (q5, .inl (c1, 50, .inl (fun _ => 0)))] := hD
  refine va_putF (D := (dC, dI)) (ci := 0) (v := .ref q5) (ty := .array .int) (C := RX0) (T := TX0) (N := 7) hx hb hts (pm_lay_in (ci := 0) rfl) tyX0 tyX0_ok nmX0 hown hK hP hD hS 0 rfl rfl 5 (by decide) (hw 114 _ (by decide +kernel)) (fun _ h9 => h9) rfl hin rfl (by decide +kernel) rfl rfl (Nat.le_of_ble_eq_true rfl) (show decode prog_2_method_1_code 43 = .ok (.putfield 28, 3) by decide +kernel) (fun H locs hP hD hS => ?_)
  have hP : va_P (dC, dI) vwCl [(h0, .inr (0, [.int (0), .ref q1, .ref q2, .ref q3, .ref q4, .ref q5, .null])), (q1, .inl (c1, 5, .inl (fun _ => 0))), (q2, .inl (c1, 10, .inl (fun _ => 0))), (q3, .inl (c1, 2, .inl (fun _ => 0))), (q4, .inl (c1, 2, .inl (fun _ => 0))), (q5, .inl (c1, 50, .inl (fun _ => 0)))] H := hP
  have hD : va_D A [(h0, .inr (0, [.int (0), .ref q1, .ref q2, .ref q3, .ref q4, .ref q5, .null])), (q1, .inl (c1, 5, .inl (fun _ => 0))), (q2, .inl (c1, 10, .inl (fun _ => 0))), (q3, .inl (c1, 2, .inl (fun _ => 0))), (q4, .inl (c1, 2, .inl (fun _ => 0))), (q5, .inl (c1, 50, .inl (fun _ => 0)))] := hD
  refine lv_aload_n hx hb (show decode prog_2_method_1_code 46 = .ok (.aload_n 0, 1) by decide +kernel) rfl (lv_at hl 0 rfl) ?_
  refine lv_iconst (v := 2) hx hb (show decode prog_2_method_1_code 47 = .ok (.iconst 2, 1) by decide +kernel) (by decide) ?_
  refine va_newa (atype := .long) hx hb (hw 133 _ (by decide +kernel)) rfl hK hP hD hS hA (a0 := (2, .inr (.inl (fun _ => 0)))) (fun _ => rfl) (by decide) (by decide) (Nat.le_of_ble_eq_true rfl) (Nat.le_of_ble_eq_true rfl) (Nat.le_of_ble_eq_true rfl) (show decode prog_2_method_1_code 48 = .ok (.newarray .long, 2) by decide +kernel) (fun q6 c6 H hK hP hD hS => ?_)
  have hP : va_P (dC, dI) vwCl [(h0, .inr (0, [.int (0), .ref q1, .ref q2, .ref q3, .ref q4, .ref q5, .null])), (q1, .inl (c1, 5, .inl (fun _ => 0))), (q2, .inl (c1, 10, .inl (fun _ => 0))), (q3, .inl (c1, 2, .inl (fun _ => 0))), (q4, .inl (c1, 2, .inl (fun _ => 0))), (q5, .inl (c1, 50, .inl (fun _ => 0))), (q6, .inl (c6, 2, .inr (.inl (fun _ => 0))))] H := hP
  have hD : va_D A [(h0, .inr (0, [.int (0), .ref q1, .ref q2, .ref q3, .ref q4, .ref q5, .null])), (q1, .inl (c1, 5, .inl (fun _ => 0))), (q2, .inl (c1, 10, .inl (fun _ => 0))), (q3, .inl (c1, 2, .inl (fun _ => 0))), (q4, .inl (c1, 2, .inl (fun _ => 0))), (q5, .inl (c1, 50, .inl (fun _ => 0))), (q6, .inl (c6, 2, .inr (.inl (fun _ => 0))))] := hD
  have hK : va_K (dC, dI) vwCl [(c1, .int), (c6, .long)] s := hK
  have hP : va_P (dC, dI) vwCl [(h0, .inr (0, [.int (0), .ref q1, .ref q2, .ref q3, .ref q4, .ref q5, .null])), (q1, .inl (c1, 5, .inl (fun _ => 0))), (q2, .inl (c1, 10, .inl (fun _ => 0))), (q3, .inl (c1, 2, .inl (fun _ => 0))), (q4, .inl (c1, 2, .inl (fun _ => 0))), (q5, .inl (c1, 50, .inl (fun _ => 0))), (q6, .inl (c6, 2, .inr (.inl (fun _ => 0))))] H := hP
  have hD : va_D A [(h0, .inr (0, [.int (0), .ref q1, .ref q2, .ref q3, .ref q4, .ref q5, .null])), (q1, .inl (c1, 5, .inl (fun _ => 0))), (q2, .inl (c1, 10, .inl (fun _ => 0))), (q3, .inl (c1, 2, .inl (fun _ => 0))), (q4, .inl (c1, 2, .inl (fun _ => 0))), (q5, .inl (c1, 50, .inl (fun _ => 0))), (q6, .inl (c6, 2, .inr (.inl (fun _ => 0))))] := hD
  refine va_putF (D := (dC, dI)) (ci := 0) (v := .ref q6) (ty := .array .long) (C := RX0) (T := TX0) (N := 7) hx hb hts (pm_lay_in (ci := 0) rfl) tyX0 tyX0_ok nmX0 hown hK hP hD hS 0 rfl rfl 6 (by decide) (hw 115 _ (by decide +kernel)) (fun _ h9 => h9) rfl hin rfl (by decide +kernel) rfl rfl (Nat.le_of_ble_eq_true rfl) (show decode prog_2_method_1_code 50 = .ok (.putfield 31, 3) by decide +kernel) (fun H locs hP hD hS => ?_)
  have hP : va_P (dC, dI) vwCl [(h0, .inr (0, [.int (0), .ref q1, .ref q2, .ref q3, .ref q4, .ref q5, .ref q6])), (q1, .inl (c1, 5, .inl (fun _ => 0))), (q2, .inl (c1, 10, .inl (fun _ => 0))), (q3, .inl (c1, 2, .inl (fun _ => 0))), (q4, .inl (c1, 2, .inl (fun _ => 0))), (q5, .inl (c1, 50, .inl (fun _ => 0))), (q6, .inl (c6, 2, .inr (.inl (fun _ => 0))))] H := hP
  have hD : va_D A [(h0, .inr (0, [.int (0), .ref q1, .ref q2, .ref q3, .ref q4, .ref q5, .ref q6])), (q1, .inl (c1, 5, .inl (fun _ => 0))), (q2, .inl (c1, 10, .inl (fun _ => 0))), (q3, .inl (c1, 2, .inl (fun _ => 0))), (q4, .inl (c1, 2, .inl (fun _ => 0))), (q5, .inl (c1, 50, .inl (fun _ => 0))), (q6, .inl (c6, 2, .inr (.inl (fun _ => 0))))] := hD
  refine lv_aload_n hx hb (show decode prog_2_method_1_code 53 = .ok (.aload_n 0, 1) by decide +kernel) rfl (lv_at hl 0 rfl) ?_
  refine va_get (D := (dC, dI)) (ci := 0) (v := .ref q3) (C := RX0) (T := TX0) (N := 7) hx hb hts (pm_lay_in (ci := 0) rfl) hown hK hP 0 rfl rfl 3 (by decide) (hw 105 _ (by decide +kernel)) (fun _ h9 => h9) rfl (show decode prog_2_method_1_code 54 = .ok (.getfield 22, 3) by decide +kernel) ?_
  refine lv_iconst (v := -1) hx hb (show decode prog_2_method_1_code 57 = .ok (.iconst (-1), 1) by decide +kernel) (by decide) ?_
  have hPc := hP.sub (ws' := [(q3, .inl (c1, 2, .inl (fun _ => 0)))]) [3] rfl
  have hDc := hD.sub (ws' := [(q3, .inl (c1, 2, .inl (fun _ => 0)))]) [3] (by decide) rfl
  have hKc := hK.sub (tys' := [(c1, .int)]) [0] rfl
  have hFc := va_free (wc := [(q3, .inl (c1, 2, .inl (fun _ => 0)))]) hD hS hA [3] rfl
  refine va_callv (va_runS (As := [.ref q3, .int (-1)]) (rest := []) ⟨hx, hb, hml, hown, hts⟩ (ci_J7 l dC dI q3 H.size c1 (fun _ => 0)) (va_cwS 2 hts (pm_Ws_good (fun w hw9 => by
      unfold va_wsS at hw9
      simp only [List.cons_append, List.nil_append, List.mem_cons] at hw9
      rcases hw9 with rfl | rfl | rfl | hw9
      · exact pm_w_ok (i := 91) (by decide +kernel)
      · exact pm_w_ok (i := 92) (by decide +kernel)
      · exact pm_w_ok (i := 66) (by decide +kernel)
      · exact pm_cin (i := 93) (y := yJ7_fill_53178) (b := prog_14_method_103_code) (n := 4) (r := none) (by decide +kernel) w (List.mem_cons.mpr hw9))) rfl rfl rfl (by decide +kernel) ⟨Nat.le_of_ble_eq_true rfl, Nat.le_of_ble_eq_true rfl⟩) ⟨pm_cblind, fun U hU hW => ⟨rfl, by rw [hU], by rw [hU]; exact hPc, va_K.moved hW.alike hKc, hDc.weaken (fun _ _ _ _ => trivial)⟩⟩ rfl rfl hl.1 rfl (lv_room (Nat.le_of_ble_eq_true rfl)) (show decode prog_2_method_1_code 58 = .ok (.invokestatic 35, 3) by decide +kernel) ⟨Nat.le_of_ble_eq_true rfl, Nat.le_of_ble_eq_true rfl⟩) hS (fun q _ h => hFc q h) hFc (fun u t H1 locs ht hvm hw1 hB hz1 hk1 hS => ?_)
  obtain ⟨hP1, hK1, hD1⟩ := hB
  rw [ht] at hP1
  have hK1 := va_K.moved hvm.symm hK1
  obtain ⟨hP, hD⟩ := va_join (wr := [(h0, .inr (0, [.int (0), .ref q1, .ref q2, .ref q3, .ref q4, .ref q5, .ref q6])), (q1, .inl (c1, 5, .inl (fun _ => 0))), (q2, .inl (c1, 10, .inl (fun _ => 0))), (q4, .inl (c1, 2, .inl (fun _ => 0))), (q5, .inl (c1, 50, .inl (fun _ => 0))), (q6, .inl (c6, 2, .inr (.inl (fun _ => 0))))]) (w1 := [(q3, .inl (c1, 2, .inl (upd (upd ((fun _ => 0)) 0 (-1)) 1 (-1))))]) hP hD [3] [0, 1, 2, 4, 5, 6] rfl rfl (by decide) (by decide) hk1 hFc hP1 hD1
  generalize H1 = H at hP hS ⊢
  have hP : va_P (dC, dI) vwCl [(h0, .inr (0, [.int (0), .ref q1, .ref q2, .ref q3, .ref q4, .ref q5, .ref q6])), (q1, .inl (c1, 5, .inl (fun _ => 0))), (q2, .inl (c1, 10, .inl (fun _ => 0))), (q4, .inl (c1, 2, .inl (fun _ => 0))), (q5, .inl (c1, 50, .inl (fun _ => 0))), (q6, .inl (c6, 2, .inr (.inl (fun _ => 0)))), (q3, .inl (c1, 2, .inl (upd (upd ((fun _ => 0)) 0 (-1)) 1 (-1))))] H := hP
  have hD : va_D A [(h0, .inr (0, [.int (0), .ref q1, .ref q2, .ref q3, .ref q4, .ref q5, .ref q6])), (q1, .inl (c1, 5, .inl (fun _ => 0))), (q2, .inl (c1, 10, .inl (fun _ => 0))), (q4, .inl (c1, 2, .inl (fun _ => 0))), (q5, .inl (c1, 50, .inl (fun _ => 0))), (q6, .inl (c6, 2, .inr (.inl (fun _ => 0)))), (q3, .inl (c1, 2, .inl (upd (upd ((fun _ => 0)) 0 (-1)) 1 (-1))))] := hD
  have hP := hP.sub (ws' := [(h0, .inr (0, [.int (0), .ref q1, .ref q2, .ref q3, .ref q4, .ref q5, .ref q6])), (q1, .inl (c1, 5, .inl (fun _ => 0))), (q2, .inl (c1, 10, .inl (fun _ => 0))), (q3, .inl (c1, 2, .inl (upd (upd ((fun _ => 0)) 0 (-1)) 1 (-1)))), (q4, .inl (c1, 2, .inl (fun _ => 0))), (q5, .inl (c1, 50, .inl (fun _ => 0))), (q6, .inl (c6, 2, .inr (.inl (fun _ => 0))))]) [0, 1, 2, 6, 3, 4, 5] rfl
  have hD := hD.sub (ws' := [(h0, .inr (0, [.int (0), .ref q1, .ref q2, .ref q3, .ref q4, .ref q5, .ref q6])), (q1, .inl (c1, 5, .inl (fun _ => 0))), (q2, .inl (c1, 10, .inl (fun _ => 0))), (q3, .inl (c1, 2, .inl (upd (upd ((fun _ => 0)) 0 (-1)) 1 (-1)))), (q4, .inl (c1, 2, .inl (fun _ => 0))), (q5, .inl (c1, 50, .inl (fun _ => 0))), (q6, .inl (c6, 2, .inr (.inl (fun _ => 0))))]) [0, 1, 2, 6, 3, 4, 5] (by decide) rfl
  exact W.vret hx hb hr (fun t ht hW => ⟨⟨(), rfl, trivial, q1, q2, q3, q4, q5, q6, c1, c6, by rw [ht]; exact hP, va_K.moved hW.alike hK, hD⟩, hS.F ht⟩) hS.2.2 (show decode prog_2_method_1_code 61 = .ok (.return_, 1) by decide +kernel)
abbrev at_ci_X1 (dC : Nat → ClassId) (dI : Nat → Nat → Nat) (A : Nat → Prop) (h0 : Nat) (_ : Unit) (t : State) : Prop := ∃ (q1 : Nat) (c1 : ClassId), va_P (dC, dI) vwCl [(h0, .inr (1, [.int (-1), .int (0), .ref q1])), (q1, .inl (c1, 40, .inr (.inl (fun _ => 0))))] t.heap ∧ va_K (dC, dI) vwCl [(c1, .long)] t ∧ va_D A [(h0, .inr (1, [.int (-1), .int (0), .ref q1])), (q1, .inl (c1, 40, .inr (.inl (fun _ => 0))))]
set_option maxHeartbeats 4000000 in
set_option maxRecDepth 100000 in
theorem ci_X1 (l : Launch) (dC : Nat → ClassId) (dI : Nat → Nat → Nat) (h0 : Nat) (sz : Nat) : Met l yX1_init (.code yX1_init prog_3_method_1_code 1 none :: pm_Ws) ({ frames := 1, cells := 1, slots := 40, locals := 40 } : Room) (va_Pc [.ref h0] (fun U => U.heap.size = sz ∧ va_P (dC, dI) vwCl [(h0, .inr (1, [.int 0, .int 0, .null]))] U.heap ∧ va_K (dC, dI) vwCl [] U ∧ va_D (fun _ => True) [(h0, .inr (1, [.int 0, .int 0, .null]))])) (va_Qv (fun _ : Unit => True) (at_ci_X1 dC dI (va_A [(h0, .inr (1, [.int 0, .int 0, .null]))] sz) h0) (va_A [(h0, .inr (1, [.int 0, .int 0, .null]))] sz)) 1 40 (va_A [(h0, .inr (1, [.int 0, .int 0, .null]))] sz) := by
  refine Met.ofW (cc := prog_3_method_1_code) (maxL := 1) (ret := none) (by decide) rfl ?_
  intro p e s m args below meth c s₁ B hml hv
  obtain ⟨rfl, hsz, hP, hK, hD0⟩ := hv
  have hx := B.exec
  have hb := B.bytes
  have hr := B.returns
  have hts0 := atoms_spec (ws := .code yX1_init prog_3_method_1_code 1 none :: pm_Ws) B.pre
  have hts : ∀ w ∈ pm_Ws, w.before _ s = true := fun w hw => hts0 w (List.mem_cons_of_mem _ hw)
  have hw : ∀ (i : Nat) (w : Jvm.Cond), pm_w i w = true → w.before _ s = true := fun i w h => pm_w_word hts h
  have hown : s.vm.findClass RX1 = some m.cls := findClass_of_methodNamed B.named
  have hlocks := B.notSynchronized
  have hin : meth.name = "<init>" := (name_of_methodNamed B.named B.method).1
  subst hsz
  have hD := hD0.self (sz := s.heap.size)
  generalize hAe : va_A [(h0, .inr (1, [.int 0, .int 0, .null]))] s.heap.size = A at hD ⊢
  have hA : ∀ q : Nat, s.heap.size ≤ q → A q := fun q h => by rw [← hAe]; exact Or.inr h
  have hS : va_S A s.heap s.heap [] := va_S.rf
  have hP : va_P (dC, dI) vwCl [(h0, .inr (1, [.int 0, .int 0, .null]))] s.heap := hP
  have hl := lv_entry ([.ref h0]) (n := 1) (Nat.le_of_ble_eq_true rfl)
  rw [lg_entry_eq]
  generalize (lg_sl ([.ref h0]) ++ List.replicate (1 - (lg_sl ([.ref h0])).length) Slot.unset).toArray = ls at hl ⊢
  have hl : lv_has ls 1 [(0, .ref h0)] := hl
  refine lv_aload_n hx hb (show decode prog_3_method_1_code 0 = .ok (.aload_n 0, 1) by decide +kernel) rfl (lv_at hl 0 rfl) ?_
  refine W.objInit hx hb hown (hw 277 _ (by decide +kernel)) (hw 83 _ (by decide +kernel)) (hw 84 _ (by decide +kernel)) rfl (by rw [hml]; exact hl.1) rfl (show decode prog_3_method_1_code 1 = .ok (.invokespecial 3, 3) by decide +kernel) (Nat.le_of_ble_eq_true rfl) (Nat.le_of_ble_eq_true rfl) ?_
  refine W.eq (g2 := F0 m 4 ls []) rfl ?_
  refine lv_aload_n hx hb (show decode prog_3_method_1_code 4 = .ok (.aload_n 0, 1) by decide +kernel) rfl (lv_at hl 0 rfl) ?_
  refine lv_iconst (v := -1) hx hb (show decode prog_3_method_1_code 5 = .ok (.iconst (-1), 1) by decide +kernel) (by decide) ?_
  refine va_put (D := (dC, dI)) (ci := 1) (v := .int (-1)) (ty := .int) (C := RX1) (T := TX1) (N := 3) hx hb hts (pm_lay_in (ci := 1) rfl) tyX1 tyX1_ok nmX1 hown hK hP hD hS 0 rfl rfl 0 (by decide) (hw 278 _ (by decide +kernel)) (fun _ h9 => h9) rfl (by decide +kernel) rfl rfl (Nat.le_of_ble_eq_true rfl) (show decode prog_3_method_1_code 6 = .ok (.putfield 9, 3) by decide +kernel) (fun H locs hP hD hS => ?_)
  have hP : va_P (dC, dI) vwCl [(h0, .inr (1, [.int (-1), .int 0, .null]))] H := hP
  have hD : va_D A [(h0, .inr (1, [.int (-1), .int 0, .null]))] := hD
  refine lv_aload_n hx hb (show decode prog_3_method_1_code 9 = .ok (.aload_n 0, 1) by decide +kernel) rfl (lv_at hl 0 rfl) ?_
  refine lv_iconst (v := 0) hx hb (show decode prog_3_method_1_code 10 = .ok (.iconst 0, 1) by decide +kernel) (by decide) ?_
  refine va_put (D := (dC, dI)) (ci := 1) (v := .int (0)) (ty := .int) (C := RX1) (T := TX1) (N := 3) hx hb hts (pm_lay_in (ci := 1) rfl) tyX1 tyX1_ok nmX1 hown hK hP hD hS 0 rfl rfl 1 (by decide) (hw 280 _ (by decide +kernel)) (fun _ h9 => h9) rfl (by decide +kernel) rfl rfl (Nat.le_of_ble_eq_true rfl) (show decode prog_3_method_1_code 11 = .ok (.putfield 15, 3) by decide +kernel) (fun H locs hP hD hS => ?_)
  have hP : va_P (dC, dI) vwCl [(h0, .inr (1, [.int (-1), .int (0), .null]))] H := hP
  have hD : va_D A [(h0, .inr (1, [.int (-1), .int (0), .null]))] := hD
  refine lv_aload_n hx hb (show decode prog_3_method_1_code 14 = .ok (.aload_n 0, 1) by decide +kernel) rfl (lv_at hl 0 rfl) ?_
  refine lv_bipush (v := 40) hx hb (show decode prog_3_method_1_code 15 = .ok (.bipush 40, 2) by decide +kernel) (by decide) ?_
  refine va_newa (atype := .long) hx hb (hw 133 _ (by decide +kernel)) rfl hK hP hD hS hA (a0 := (40, .inr (.inl (fun _ => 0)))) (fun _ => rfl) (by decide) (by decide) (Nat.le_of_ble_eq_true rfl) (Nat.le_of_ble_eq_true rfl) (Nat.le_of_ble_eq_true rfl) (show decode prog_3_method_1_code 17 = .ok (.newarray .long, 2) by decide +kernel) (fun q1 c1 H hK hP hD hS => ?_)
  have hP : va_P (dC, dI) vwCl [(h0, .inr (1, [.int (-1), .int (0), .null])), (q1, .inl (c1, 40, .inr (.inl (fun _ => 0))))] H := hP
  have hD : va_D A [(h0, .inr (1, [.int (-1), .int (0), .null])), (q1, .inl (c1, 40, .inr (.inl (fun _ => 0))))] := hD
  have hK : va_K (dC, dI) vwCl [(c1, .long)] s := hK
  have hP : va_P (dC, dI) vwCl [(h0, .inr (1, [.int (-1), .int (0), .null])), (q1, .inl (c1, 40, .inr (.inl (fun _ => 0))))] H := hP
  have hD : va_D A [(h0, .inr (1, [.int (-1), .int (0), .null])), (q1, .inl (c1, 40, .inr (.inl (fun _ => 0))))] := hD
  refine va_putF (D := (dC, dI)) (ci := 1) (v := .ref q1) (ty := .array .long) (C := RX1) (T := TX1) (N := 3) hx hb hts (pm_lay_in (ci := 1) rfl) tyX1 tyX1_ok nmX1 hown hK hP hD hS 0 rfl rfl 2 (by decide) (hw 282 _ (by decide +kernel)) (fun _ h9 => h9) rfl hin rfl (by decide +kernel) rfl rfl (Nat.le_of_ble_eq_true rfl) (show decode prog_3_method_1_code 19 = .ok (.putfield 18, 3) by decide +kernel) (fun H locs hP hD hS => ?_)
  have hP : va_P (dC, dI) vwCl [(h0, .inr (1, [.int (-1), .int (0), .ref q1])), (q1, .inl (c1, 40, .inr (.inl (fun _ => 0))))] H := hP
  have hD : va_D A [(h0, .inr (1, [.int (-1), .int (0), .ref q1])), (q1, .inl (c1, 40, .inr (.inl (fun _ => 0))))] := hD
  exact W.vret hx hb hr (fun t ht hW => ⟨⟨(), rfl, trivial, q1, c1, by rw [ht]; exact hP, va_K.moved hW.alike hK, hD⟩, hS.F ht⟩) hS.2.2 (show decode prog_3_method_1_code 22 = .ok (.return_, 1) by decide +kernel)
abbrev at_ci_X2 (dC : Nat → ClassId) (dI : Nat → Nat → Nat) (A : Nat → Prop) (h0 : Nat) (_ : Unit) (t : State) : Prop := ∃ (q1 q2 q3 q4 q5 q6 : Nat) (c1 c2 c5 : ClassId), va_P (dC, dI) vwCl [(h0, .inr (2, [.int (0), .int (0), .int (0), .int (0), .long (0), .ref q1, .ref q2, .ref q3, .ref q4, .ref q5, .ref q6])), (q1, .inl (c1, 5, .inl (fun _ => 0))), (q2, .inl (c2, 10, .inr (.inl (fun _ => 0)))), (q3, .inl (c2, 49, .inr (.inl (fun _ => 0)))), (q4, .inl (c2, 49, .inr (.inl (fun _ => 0)))), (q5, .inl (c5, 10, .inl (fun _ => 0))), (q6, .inl (c5, 10, .inl (fun _ => 0)))] t.heap ∧ va_K (dC, dI) vwCl [(c1, .boolean), (c2, .long), (c5, .int)] t ∧ va_D A [(h0, .inr (2, [.int (0), .int (0), .int (0), .int (0), .long (0), .ref q1, .ref q2, .ref q3, .ref q4, .ref q5, .ref q6])), (q1, .inl (c1, 5, .inl (fun _ => 0))), (q2, .inl (c2, 10, .inr (.inl (fun _ => 0)))), (q3, .inl (c2, 49, .inr (.inl (fun _ => 0)))), (q4, .inl (c2, 49, .inr (.inl (fun _ => 0)))), (q5, .inl (c5, 10, .inl (fun _ => 0))), (q6, .inl (c5, 10, .inl (fun _ => 0)))]
set_option maxHeartbeats 4000000 in
set_option maxRecDepth 100000 in
theorem ci_X2 (l : Launch) (dC : Nat → ClassId) (dI : Nat → Nat → Nat) (h0 : Nat) (sz : Nat) : Met l yX2_init (.code yX2_init prog_4_method_1_code 1 none :: pm_Ws) ({ frames := 1, cells := 6, slots := 133, locals := 40 } : Room) (va_Pc [.ref h0] (fun U => U.heap.size = sz ∧ va_P (dC, dI) vwCl [(h0, .inr (2, [.int 0, .int 0, .int 0, .int 0, .long 0, .null, .null, .null, .null, .null, .null]))] U.heap ∧ va_K (dC, dI) vwCl [] U ∧ va_D (fun _ => True) [(h0, .inr (2, [.int 0, .int 0, .int 0, .int 0, .long 0, .null, .null, .null, .null, .null, .null]))])) (va_Qv (fun _ : Unit => True) (at_ci_X2 dC dI (va_A [(h0, .inr (2, [.int 0, .int 0, .int 0, .int 0, .long 0, .null, .null, .null, .null, .null, .null]))] sz) h0) (va_A [(h0, .inr (2, [.int 0, .int 0, .int 0, .int 0, .long 0, .null, .null, .null, .null, .null, .null]))] sz)) 6 133 (va_A [(h0, .inr (2, [.int 0, .int 0, .int 0, .int 0, .long 0, .null, .null, .null, .null, .null, .null]))] sz) := by
  refine Met.ofW (cc := prog_4_method_1_code) (maxL := 1) (ret := none) (by decide) rfl ?_
  intro p e s m args below meth c s₁ B hml hv
  obtain ⟨rfl, hsz, hP, hK, hD0⟩ := hv
  have hx := B.exec
  have hb := B.bytes
  have hr := B.returns
  have hts0 := atoms_spec (ws := .code yX2_init prog_4_method_1_code 1 none :: pm_Ws) B.pre
  have hts : ∀ w ∈ pm_Ws, w.before _ s = true := fun w hw => hts0 w (List.mem_cons_of_mem _ hw)
  have hw : ∀ (i : Nat) (w : Jvm.Cond), pm_w i w = true → w.before _ s = true := fun i w h => pm_w_word hts h
  have hown : s.vm.findClass RX2 = some m.cls := findClass_of_methodNamed B.named
  have hlocks := B.notSynchronized
  have hin : meth.name = "<init>" := (name_of_methodNamed B.named B.method).1
  subst hsz
  have hD := hD0.self (sz := s.heap.size)
  generalize hAe : va_A [(h0, .inr (2, [.int 0, .int 0, .int 0, .int 0, .long 0, .null, .null, .null, .null, .null, .null]))] s.heap.size = A at hD ⊢
  have hA : ∀ q : Nat, s.heap.size ≤ q → A q := fun q h => by rw [← hAe]; exact Or.inr h
  have hS : va_S A s.heap s.heap [] := va_S.rf
  have hP : va_P (dC, dI) vwCl [(h0, .inr (2, [.int 0, .int 0, .int 0, .int 0, .long 0, .null, .null, .null, .null, .null, .null]))] s.heap := hP
  have hl := lv_entry ([.ref h0]) (n := 1) (Nat.le_of_ble_eq_true rfl)
  rw [lg_entry_eq]
  generalize (lg_sl ([.ref h0]) ++ List.replicate (1 - (lg_sl ([.ref h0])).length) Slot.unset).toArray = ls at hl ⊢
  have hl : lv_has ls 1 [(0, .ref h0)] := hl
  refine lv_aload_n hx hb (show decode prog_4_method_1_code 0 = .ok (.aload_n 0, 1) by decide +kernel) rfl (lv_at hl 0 rfl) ?_
  refine W.objInit hx hb hown (hw 170 _ (by decide +kernel)) (hw 83 _ (by decide +kernel)) (hw 84 _ (by decide +kernel)) rfl (by rw [hml]; exact hl.1) rfl (show decode prog_4_method_1_code 1 = .ok (.invokespecial 3, 3) by decide +kernel) (Nat.le_of_ble_eq_true rfl) (Nat.le_of_ble_eq_true rfl) ?_
  refine W.eq (g2 := F0 m 4 ls []) rfl ?_
  refine lv_aload_n hx hb (show decode prog_4_method_1_code 4 = .ok (.aload_n 0, 1) by decide +kernel) rfl (lv_at hl 0 rfl) ?_
  refine lv_iconst (v := 0) hx hb (show decode prog_4_method_1_code 5 = .ok (.iconst 0, 1) by decide +kernel) (by decide) ?_
  refine va_put (D := (dC, dI)) (ci := 2) (v := .int (0)) (ty := .int) (C := RX2) (T := TX2) (N := 11) hx hb hts (pm_lay_in (ci := 2) rfl) tyX2 tyX2_ok nmX2 hown hK hP hD hS 0 rfl rfl 0 (by decide) (hw 171 _ (by decide +kernel)) (fun _ h9 => h9) rfl (by decide +kernel) rfl rfl (Nat.le_of_ble_eq_true rfl) (show decode prog_4_method_1_code 6 = .ok (.putfield 9, 3) by decide +kernel) (fun H locs hP hD hS => ?_)
  have hP : va_P (dC, dI) vwCl [(h0, .inr (2, [.int (0), .int 0, .int 0, .int 0, .long 0, .null, .null, .null, .null, .null, .null]))] H := hP
  have hD : va_D A [(h0, .inr (2, [.int (0), .int 0, .int 0, .int 0, .long 0, .null, .null, .null, .null, .null, .null]))] := hD
  refine lv_aload_n hx hb (show decode prog_4_method_1_code 9 = .ok (.aload_n 0, 1) by decide +kernel) rfl (lv_at hl 0 rfl) ?_
  refine lv_iconst (v := 0) hx hb (show decode prog_4_method_1_code 10 = .ok (.iconst 0, 1) by decide +kernel) (by decide) ?_
  refine va_put (D := (dC, dI)) (ci := 2) (v := .int (0)) (ty := .int) (C := RX2) (T := TX2) (N := 11) hx hb hts (pm_lay_in (ci := 2) rfl) tyX2 tyX2_ok nmX2 hown hK hP hD hS 0 rfl rfl 1 (by decide) (hw 172 _ (by decide +kernel)) (fun _ h9 => h9) rfl (by decide +kernel) rfl rfl (Nat.le_of_ble_eq_true rfl) (show decode prog_4_method_1_code 11 = .ok (.putfield 15, 3) by decide +kernel) (fun H locs hP hD hS => ?_)
  have hP : va_P (dC, dI) vwCl [(h0, .inr (2, [.int (0), .int (0), .int 0, .int 0, .long 0, .null, .null, .null, .null, .null, .null]))] H := hP
  have hD : va_D A [(h0, .inr (2, [.int (0), .int (0), .int 0, .int 0, .long 0, .null, .null, .null, .null, .null, .null]))] := hD
  refine lv_aload_n hx hb (show decode prog_4_method_1_code 14 = .ok (.aload_n 0, 1) by decide +kernel) rfl (lv_at hl 0 rfl) ?_
  refine lv_iconst (v := 0) hx hb (show decode prog_4_method_1_code 15 = .ok (.iconst 0, 1) by decide +kernel) (by decide) ?_
  refine va_put (D := (dC, dI)) (ci := 2) (v := .int (0)) (ty := .int) (C := RX2) (T := TX2) (N := 11) hx hb hts (pm_lay_in (ci := 2) rfl) tyX2 tyX2_ok nmX2 hown hK hP hD hS 0 rfl rfl 2 (by decide) (hw 173 _ (by decide +kernel)) (fun _ h9 => h9) rfl (by decide +kernel) rfl rfl (Nat.le_of_ble_eq_true rfl) (show decode prog_4_method_1_code 16 = .ok (.putfield 18, 3) by decide +kernel) (fun H locs hP hD hS => ?_)
  have hP : va_P (dC, dI) vwCl [(h0, .inr (2, [.int (0), .int (0), .int (0), .int 0, .long 0, .null, .null, .null, .null, .null, .null]))] H := hP
  have hD : va_D A [(h0, .inr (2, [.int (0), .int (0), .int (0), .int 0, .long 0, .null, .null, .null, .null, .null, .null]))] := hD
  refine lv_aload_n hx hb (show decode prog_4_method_1_code 19 = .ok (.aload_n 0, 1) by decide +kernel) rfl (lv_at hl 0 rfl) ?_
  refine lv_iconst (v := 0) hx hb (show decode prog_4_method_1_code 20 = .ok (.iconst 0, 1) by decide +kernel) (by decide) ?_
  refine va_put (D := (dC, dI)) (ci := 2) (v := .int (0)) (ty := .boolean) (C := RX2) (T := TX2) (N := 11) hx hb hts (pm_lay_in (ci := 2) rfl) tyX2 tyX2_ok nmX2 hown hK hP hD hS 0 rfl rfl 3 (by decide) (hw 174 _ (by decide +kernel)) (fun _ h9 => h9) rfl (by decide +kernel) rfl rfl (Nat.le_of_ble_eq_true rfl) (show decode prog_4_method_1_code 21 = .ok (.putfield 21, 3) by decide +kernel) (fun H locs hP hD hS => ?_)
  have hP : va_P (dC, dI) vwCl [(h0, .inr (2, [.int (0), .int (0), .int (0), .int (0), .long 0, .null, .null, .null, .null, .null, .null]))] H := hP
  have hD : va_D A [(h0, .inr (2, [.int (0), .int (0), .int (0), .int (0), .long 0, .null, .null, .null, .null, .null, .null]))] := hD
  refine lv_aload_n hx hb (show decode prog_4_method_1_code 24 = .ok (.aload_n 0, 1) by decide +kernel) rfl (lv_at hl 0 rfl) ?_
  refine lv_lconst (v := 0) hx hb (show decode prog_4_method_1_code 25 = .ok (.lconst 0, 1) by decide +kernel) (by decide) ?_
  refine va_put (D := (dC, dI)) (ci := 2) (v := .long (0)) (ty := .long) (C := RX2) (T := TX2) (N := 11) hx hb hts (pm_lay_in (ci := 2) rfl) tyX2 tyX2_ok nmX2 hown hK hP hD hS 0 rfl rfl 4 (by decide) (hw 175 _ (by decide +kernel)) (fun _ h9 => h9) rfl (by decide +kernel) rfl rfl (Nat.le_of_ble_eq_true rfl) (show decode prog_4_method_1_code 26 = .ok (.putfield 25, 3) by decide +kernel) (fun H locs hP hD hS => ?_)
  have hP : va_P (dC, dI) vwCl [(h0, .inr (2, [.int (0), .int (0), .int (0), .int (0), .long (0), .null, .null, .null, .null, .null, .null]))] H := hP
  have hD : va_D A [(h0, .inr (2, [.int (0), .int (0), .int (0), .int (0), .long (0), .null, .null, .null, .null, .null, .null]))] := hD
  refine lv_aload_n hx hb (show decode prog_4_method_1_code 29 = .ok (.aload_n 0, 1) by decide +kernel) rfl (lv_at hl 0 rfl) ?_
  refine lv_iconst (v := 5) hx hb (show decode prog_4_method_1_code 30 = .ok (.iconst 5, 1) by decide +kernel) (by decide) ?_
  refine va_newa (atype := .boolean) hx hb (hw 164 _ (by decide +kernel)) rfl hK hP hD hS hA (a0 := (5, .inl (fun _ => 0))) (fun _ => rfl) (by decide) (by decide) (Nat.le_of_ble_eq_true rfl) (Nat.le_of_ble_eq_true rfl) (Nat.le_of_ble_eq_true rfl) (show decode prog_4_method_1_code 31 = .ok (.newarray .boolean, 2) by decide +kernel) (fun q1 c1 H hK hP hD hS => ?_)
  have hP : va_P (dC, dI) vwCl [(h0, .inr (2, [.int (0), .int (0), .int (0), .int (0), .long (0), .null, .null, .null, .null, .null, .null])), (q1, .inl (c1, 5, .inl (fun _ => 0)))] H := hP
  have hD : va_D A [(h0, .inr (2, [.int (0), .int (0), .int (0), .int (0), .long (0), .null, .null, .null, .null, .null, .null])), (q1, .inl (c1, 5, .inl (fun _ => 0)))] := hD
  have hK : va_K (dC, dI) vwCl [(c1, .boolean)] s := hK
  have hP : va_P (dC, dI) vwCl [(h0, .inr (2, [.int (0), .int (0), .int (0), .int (0), .long (0), .null, .null, .null, .null, .null, .null])), (q1, .inl (c1, 5, .inl (fun _ => 0)))] H := hP
  have hD : va_D A [(h0, .inr (2, [.int (0), .int (0), .int (0), .int (0), .long (0), .null, .null, .null, .null, .null, .null])), (q1, .inl (c1, 5, .inl (fun _ => 0)))] := hD
  refine va_putF (D := (dC, dI)) (ci := 2) (v := .ref q1) (ty := .array .boolean) (C := RX2) (T := TX2) (N := 11) hx hb hts (pm_lay_in (ci := 2) rfl) tyX2 tyX2_ok nmX2 hown hK hP hD hS 0 rfl rfl 5 (by decide) (hw 176 _ (by decide +kernel)) (fun _ h9 => h9) rfl hin rfl (by decide +kernel) rfl rfl (Nat.le_of_ble_eq_true rfl) (show decode prog_4_method_1_code 33 = .ok (.putfield 29, 3) by decide +kernel) (fun H locs hP hD hS => ?_)
  have hP : va_P (dC, dI) vwCl [(h0, .inr (2, [.int (0), .int (0), .int (0), .int (0), .long (0), .ref q1, .null, .null, .null, .null, .null])), (q1, .inl (c1, 5, .inl (fun _ => 0)))] H := hP
  have hD : va_D A [(h0, .inr (2, [.int (0), .int (0), .int (0), .int (0), .long (0), .ref q1, .null, .null, .null, .null, .null])), (q1, .inl (c1, 5, .inl (fun _ => 0)))] := hD
  refine lv_aload_n hx hb (show decode prog_4_method_1_code 36 = .ok (.aload_n 0, 1) by decide +kernel) rfl (lv_at hl 0 rfl) ?_
  refine lv_bipush (v := 10) hx hb (show decode prog_4_method_1_code 37 = .ok (.bipush 10, 2) by decide +kernel) (by decide) ?_
  refine va_newa (atype := .long) hx hb (hw 133 _ (by decide +kernel)) rfl hK hP hD hS hA (a0 := (10, .inr (.inl (fun _ => 0)))) (fun _ => rfl) (by decide) (by decide) (Nat.le_of_ble_eq_true rfl) (Nat.le_of_ble_eq_true rfl) (Nat.le_of_ble_eq_true rfl) (show decode prog_4_method_1_code 39 = .ok (.newarray .long, 2) by decide +kernel) (fun q2 c2 H hK hP hD hS => ?_)
  have hP : va_P (dC, dI) vwCl [(h0, .inr (2, [.int (0), .int (0), .int (0), .int (0), .long (0), .ref q1, .null, .null, .null, .null, .null])), (q1, .inl (c1, 5, .inl (fun _ => 0))), (q2, .inl (c2, 10, .inr (.inl (fun _ => 0))))] H := hP
  have hD : va_D A [(h0, .inr (2, [.int (0), .int (0), .int (0), .int (0), .long (0), .ref q1, .null, .null, .null, .null, .null])), (q1, .inl (c1, 5, .inl (fun _ => 0))), (q2, .inl (c2, 10, .inr (.inl (fun _ => 0))))] := hD
  have hK : va_K (dC, dI) vwCl [(c1, .boolean), (c2, .long)] s := hK
  have hP : va_P (dC, dI) vwCl [(h0, .inr (2, [.int (0), .int (0), .int (0), .int (0), .long (0), .ref q1, .null, .null, .null, .null, .null])), (q1, .inl (c1, 5, .inl (fun _ => 0))), (q2, .inl (c2, 10, .inr (.inl (fun _ => 0))))] H := hP
  have hD : va_D A [(h0, .inr (2, [.int (0), .int (0), .int (0), .int (0), .long (0), .ref q1, .null, .null, .null, .null, .null])), (q1, .inl (c1, 5, .inl (fun _ => 0))), (q2, .inl (c2, 10, .inr (.inl (fun _ => 0))))] := hD
  refine va_putF (D := (dC, dI)) (ci := 2) (v := .ref q2) (ty := .array .long) (C := RX2) (T := TX2) (N := 11) hx hb hts (pm_lay_in (ci := 2) rfl) tyX2 tyX2_ok nmX2 hown hK hP hD hS 0 rfl rfl 6 (by decide) (hw 177 _ (by decide +kernel)) (fun _ h9 => h9) rfl hin rfl (by decide +kernel) rfl rfl (Nat.le_of_ble_eq_true rfl) (show decode prog_4_method_1_code 41 = .ok (.putfield 33, 3) by decide +kernel) (fun H locs hP hD hS => ?_)
  have hP : va_P (dC, dI) vwCl [(h0, .inr (2, [.int (0), .int (0), .int (0), .int (0), .long (0), .ref q1, .ref q2, .null, .null, .null, .null])), (q1, .inl (c1, 5, .inl (fun _ => 0))), (q2, .inl (c2, 10, .inr (.inl (fun _ => 0))))] H := hP
  have hD : va_D A [(h0, .inr (2, [.int (0), .int (0), .int (0), .int (0), .long (0), .ref q1, .ref q2, .null, .null, .null, .null])), (q1, .inl (c1, 5, .inl (fun _ => 0))), (q2, .inl (c2, 10, .inr (.inl (fun _ => 0))))] := hD
  refine lv_aload_n hx hb (show decode prog_4_method_1_code 44 = .ok (.aload_n 0, 1) by decide +kernel) rfl (lv_at hl 0 rfl) ?_
  refine lv_bipush (v := 49) hx hb (show decode prog_4_method_1_code 45 = .ok (.bipush 49, 2) by decide +kernel) (by decide) ?_
  refine va_newa (atype := .long) hx hb (hw 133 _ (by decide +kernel)) rfl hK hP hD hS hA (a0 := (49, .inr (.inl (fun _ => 0)))) (fun _ => rfl) (by decide) (by decide) (Nat.le_of_ble_eq_true rfl) (Nat.le_of_ble_eq_true rfl) (Nat.le_of_ble_eq_true rfl) (show decode prog_4_method_1_code 47 = .ok (.newarray .long, 2) by decide +kernel) (fun q3 c3 H hK hP hD hS => ?_)
  have hP : va_P (dC, dI) vwCl [(h0, .inr (2, [.int (0), .int (0), .int (0), .int (0), .long (0), .ref q1, .ref q2, .null, .null, .null, .null])), (q1, .inl (c1, 5, .inl (fun _ => 0))), (q2, .inl (c2, 10, .inr (.inl (fun _ => 0)))), (q3, .inl (c3, 49, .inr (.inl (fun _ => 0))))] H := hP
  have hD : va_D A [(h0, .inr (2, [.int (0), .int (0), .int (0), .int (0), .long (0), .ref q1, .ref q2, .null, .null, .null, .null])), (q1, .inl (c1, 5, .inl (fun _ => 0))), (q2, .inl (c2, 10, .inr (.inl (fun _ => 0)))), (q3, .inl (c3, 49, .inr (.inl (fun _ => 0))))] := hD
  have hK : va_K (dC, dI) vwCl [(c1, .boolean), (c2, .long), (c3, .long)] s := hK
  have e9 := pm_uq hK (i := 1) (j := 2) rfl rfl
  subst e9
  have hK := hK.sub (tys' := [(c1, .boolean), (c2, .long)]) [0, 1] rfl
  have hP : va_P (dC, dI) vwCl [(h0, .inr (2, [.int (0), .int (0), .int (0), .int (0), .long (0), .ref q1, .ref q2, .null, .null, .null, .null])), (q1, .inl (c1, 5, .inl (fun _ => 0))), (q2, .inl (c2, 10, .inr (.inl (fun _ => 0)))), (q3, .inl (c2, 49, .inr (.inl (fun _ => 0))))] H := hP
  have hD : va_D A [(h0, .inr (2, [.int (0), .int (0), .int (0), .int (0), .long (0), .ref q1, .ref q2, .null, .null, .null, .null])), (q1, .inl (c1, 5, .inl (fun _ => 0))), (q2, .inl (c2, 10, .inr (.inl (fun _ => 0)))), (q3, .inl (c2, 49, .inr (.inl (fun _ => 0))))] := hD
  refine va_putF (D := (dC, dI)) (ci := 2) (v := .ref q3) (ty := .array .long) (C := RX2) (T := TX2) (N := 11) hx hb hts (pm_lay_in (ci := 2) rfl) tyX2 tyX2_ok nmX2 hown hK hP hD hS 0 rfl rfl 7 (by decide) (hw 178 _ (by decide +kernel)) (fun _ h9 => h9) rfl hin rfl (by decide +kernel) rfl rfl (Nat.le_of_ble_eq_true rfl) (show decode prog_4_method_1_code 49 = .ok (.putfield 37, 3) by decide +kernel) (fun H locs hP hD hS => ?_)
  have hP : va_P (dC, dI) vwCl [(h0, .inr (2, [.int (0), .int (0), .int (0), .int (0), .long (0), .ref q1, .ref q2, .ref q3, .null, .null, .null])), (q1, .inl (c1, 5, .inl (fun _ => 0))), (q2, .inl (c2, 10, .inr (.inl (fun _ => 0)))), (q3, .inl (c2, 49, .inr (.inl (fun _ => 0))))] H := hP
  have hD : va_D A [(h0, .inr (2, [.int (0), .int (0), .int (0), .int (0), .long (0), .ref q1, .ref q2, .ref q3, .null, .null, .null])), (q1, .inl (c1, 5, .inl (fun _ => 0))), (q2, .inl (c2, 10, .inr (.inl (fun _ => 0)))), (q3, .inl (c2, 49, .inr (.inl (fun _ => 0))))] := hD
  refine lv_aload_n hx hb (show decode prog_4_method_1_code 52 = .ok (.aload_n 0, 1) by decide +kernel) rfl (lv_at hl 0 rfl) ?_
  refine lv_bipush (v := 49) hx hb (show decode prog_4_method_1_code 53 = .ok (.bipush 49, 2) by decide +kernel) (by decide) ?_
  refine va_newa (atype := .long) hx hb (hw 133 _ (by decide +kernel)) rfl hK hP hD hS hA (a0 := (49, .inr (.inl (fun _ => 0)))) (fun _ => rfl) (by decide) (by decide) (Nat.le_of_ble_eq_true rfl) (Nat.le_of_ble_eq_true rfl) (Nat.le_of_ble_eq_true rfl) (show decode prog_4_method_1_code 55 = .ok (.newarray .long, 2) by decide +kernel) (fun q4 c4 H hK hP hD hS => ?_)
  have hP : va_P (dC, dI) vwCl [(h0, .inr (2, [.int (0), .int (0), .int (0), .int (0), .long (0), .ref q1, .ref q2, .ref q3, .null, .null, .null])), (q1, .inl (c1, 5, .inl (fun _ => 0))), (q2, .inl (c2, 10, .inr (.inl (fun _ => 0)))), (q3, .inl (c2, 49, .inr (.inl (fun _ => 0)))), (q4, .inl (c4, 49, .inr (.inl (fun _ => 0))))] H := hP
  have hD : va_D A [(h0, .inr (2, [.int (0), .int (0), .int (0), .int (0), .long (0), .ref q1, .ref q2, .ref q3, .null, .null, .null])), (q1, .inl (c1, 5, .inl (fun _ => 0))), (q2, .inl (c2, 10, .inr (.inl (fun _ => 0)))), (q3, .inl (c2, 49, .inr (.inl (fun _ => 0)))), (q4, .inl (c4, 49, .inr (.inl (fun _ => 0))))] := hD
  have hK : va_K (dC, dI) vwCl [(c1, .boolean), (c2, .long), (c4, .long)] s := hK
  have e9 := pm_uq hK (i := 1) (j := 2) rfl rfl
  subst e9
  have hK := hK.sub (tys' := [(c1, .boolean), (c2, .long)]) [0, 1] rfl
  have hP : va_P (dC, dI) vwCl [(h0, .inr (2, [.int (0), .int (0), .int (0), .int (0), .long (0), .ref q1, .ref q2, .ref q3, .null, .null, .null])), (q1, .inl (c1, 5, .inl (fun _ => 0))), (q2, .inl (c2, 10, .inr (.inl (fun _ => 0)))), (q3, .inl (c2, 49, .inr (.inl (fun _ => 0)))), (q4, .inl (c2, 49, .inr (.inl (fun _ => 0))))] H := hP
  have hD : va_D A [(h0, .inr (2, [.int (0), .int (0), .int (0), .int (0), .long (0), .ref q1, .ref q2, .ref q3, .null, .null, .null])), (q1, .inl (c1, 5, .inl (fun _ => 0))), (q2, .inl (c2, 10, .inr (.inl (fun _ => 0)))), (q3, .inl (c2, 49, .inr (.inl (fun _ => 0)))), (q4, .inl (c2, 49, .inr (.inl (fun _ => 0))))] := hD
  refine va_putF (D := (dC, dI)) (ci := 2) (v := .ref q4) (ty := .array .long) (C := RX2) (T := TX2) (N := 11) hx hb hts (pm_lay_in (ci := 2) rfl) tyX2 tyX2_ok nmX2 hown hK hP hD hS 0 rfl rfl 8 (by decide) (hw 179 _ (by decide +kernel)) (fun _ h9 => h9) rfl hin rfl (by decide +kernel) rfl rfl (Nat.le_of_ble_eq_true rfl) (show decode prog_4_method_1_code 57 = .ok (.putfield 40, 3) by decide +kernel) (fun H locs hP hD hS => ?_)
  have hP : va_P (dC, dI) vwCl [(h0, .inr (2, [.int (0), .int (0), .int (0), .int (0), .long (0), .ref q1, .ref q2, .ref q3, .ref q4, .null, .null])), (q1, .inl (c1, 5, .inl (fun _ => 0))), (q2, .inl (c2, 10, .inr (.inl (fun _ => 0)))), (q3, .inl (c2, 49, .inr (.inl (fun _ => 0)))), (q4, .inl (c2, 49, .inr (.inl (fun _ => 0))))] H := hP
  have hD : va_D A [(h0, .inr (2, [.int (0), .int (0), .int (0), .int (0), .long (0), .ref q1, .ref q2, .ref q3, .ref q4, .null, .null])), (q1, .inl (c1, 5, .inl (fun _ => 0))), (q2, .inl (c2, 10, .inr (.inl (fun _ => 0)))), (q3, .inl (c2, 49, .inr (.inl (fun _ => 0)))), (q4, .inl (c2, 49, .inr (.inl (fun _ => 0))))] := hD
  refine lv_aload_n hx hb (show decode prog_4_method_1_code 60 = .ok (.aload_n 0, 1) by decide +kernel) rfl (lv_at hl 0 rfl) ?_
  refine lv_bipush (v := 10) hx hb (show decode prog_4_method_1_code 61 = .ok (.bipush 10, 2) by decide +kernel) (by decide) ?_
  refine va_newa (atype := .int) hx hb (hw 132 _ (by decide +kernel)) rfl hK hP hD hS hA (a0 := (10, .inl (fun _ => 0))) (fun _ => rfl) (by decide) (by decide) (Nat.le_of_ble_eq_true rfl) (Nat.le_of_ble_eq_true rfl) (Nat.le_of_ble_eq_true rfl) (show decode prog_4_method_1_code 63 = .ok (.newarray .int, 2) by decide +kernel) (fun q5 c5 H hK hP hD hS => ?_)
  have hP : va_P (dC, dI) vwCl [(h0, .inr (2, [.int (0), .int (0), .int (0), .int (0), .long (0), .ref q1, .ref q2, .ref q3, .ref q4, .null, .null])), (q1, .inl (c1, 5, .inl (fun _ => 0))), (q2, .inl (c2, 10, .inr (.inl (fun _ => 0)))), (q3, .inl (c2, 49, .inr (.inl (fun _ => 0)))), (q4, .inl (c2, 49, .inr (.inl (fun _ => 0)))), (q5, .inl (c5, 10, .inl (fun _ => 0)))] H := hP
  have hD : va_D A [(h0, .inr (2, [.int (0), .int (0), .int (0), .int (0), .long (0), .ref q1, .ref q2, .ref q3, .ref q4, .null, .null])), (q1, .inl (c1, 5, .inl (fun _ => 0))), (q2, .inl (c2, 10, .inr (.inl (fun _ => 0)))), (q3, .inl (c2, 49, .inr (.inl (fun _ => 0)))), (q4, .inl (c2, 49, .inr (.inl (fun _ => 0)))), (q5, .inl (c5, 10, .inl (fun _ => 0)))] := hD
  have hK : va_K (dC, dI) vwCl [(c1, .boolean), (c2, .long), (c5, .int)] s := hK
  have hP : va_P (dC, dI) vwCl [(h0, .inr (2, [.int (0), .int (0), .int (0), .int (0), .long (0), .ref q1, .ref q2, .ref q3, .ref q4, .null, .null])), (q1, .inl (c1, 5, .inl (fun _ => 0))), (q2, .inl (c2, 10, .inr (.inl (fun _ => 0)))), (q3, .inl (c2, 49, .inr (.inl (fun _ => 0)))), (q4, .inl (c2, 49, .inr (.inl (fun _ => 0)))), (q5, .inl (c5, 10, .inl (fun _ => 0)))] H := hP
  have hD : va_D A [(h0, .inr (2, [.int (0), .int (0), .int (0), .int (0), .long (0), .ref q1, .ref q2, .ref q3, .ref q4, .null, .null])), (q1, .inl (c1, 5, .inl (fun _ => 0))), (q2, .inl (c2, 10, .inr (.inl (fun _ => 0)))), (q3, .inl (c2, 49, .inr (.inl (fun _ => 0)))), (q4, .inl (c2, 49, .inr (.inl (fun _ => 0)))), (q5, .inl (c5, 10, .inl (fun _ => 0)))] := hD
  refine va_putF (D := (dC, dI)) (ci := 2) (v := .ref q5) (ty := .array .int) (C := RX2) (T := TX2) (N := 11) hx hb hts (pm_lay_in (ci := 2) rfl) tyX2 tyX2_ok nmX2 hown hK hP hD hS 0 rfl rfl 9 (by decide) (hw 180 _ (by decide +kernel)) (fun _ h9 => h9) rfl hin rfl (by decide +kernel) rfl rfl (Nat.le_of_ble_eq_true rfl) (show decode prog_4_method_1_code 65 = .ok (.putfield 43, 3) by decide +kernel) (fun H locs hP hD hS => ?_)
  have hP : va_P (dC, dI) vwCl [(h0, .inr (2, [.int (0), .int (0), .int (0), .int (0), .long (0), .ref q1, .ref q2, .ref q3, .ref q4, .ref q5, .null])), (q1, .inl (c1, 5, .inl (fun _ => 0))), (q2, .inl (c2, 10, .inr (.inl (fun _ => 0)))), (q3, .inl (c2, 49, .inr (.inl (fun _ => 0)))), (q4, .inl (c2, 49, .inr (.inl (fun _ => 0)))), (q5, .inl (c5, 10, .inl (fun _ => 0)))] H := hP
  have hD : va_D A [(h0, .inr (2, [.int (0), .int (0), .int (0), .int (0), .long (0), .ref q1, .ref q2, .ref q3, .ref q4, .ref q5, .null])), (q1, .inl (c1, 5, .inl (fun _ => 0))), (q2, .inl (c2, 10, .inr (.inl (fun _ => 0)))), (q3, .inl (c2, 49, .inr (.inl (fun _ => 0)))), (q4, .inl (c2, 49, .inr (.inl (fun _ => 0)))), (q5, .inl (c5, 10, .inl (fun _ => 0)))] := hD
  refine lv_aload_n hx hb (show decode prog_4_method_1_code 68 = .ok (.aload_n 0, 1) by decide +kernel) rfl (lv_at hl 0 rfl) ?_
  refine lv_bipush (v := 10) hx hb (show decode prog_4_method_1_code 69 = .ok (.bipush 10, 2) by decide +kernel) (by decide) ?_
  refine va_newa (atype := .int) hx hb (hw 132 _ (by decide +kernel)) rfl hK hP hD hS hA (a0 := (10, .inl (fun _ => 0))) (fun _ => rfl) (by decide) (by decide) (Nat.le_of_ble_eq_true rfl) (Nat.le_of_ble_eq_true rfl) (Nat.le_of_ble_eq_true rfl) (show decode prog_4_method_1_code 71 = .ok (.newarray .int, 2) by decide +kernel) (fun q6 c6 H hK hP hD hS => ?_)
  have hP : va_P (dC, dI) vwCl [(h0, .inr (2, [.int (0), .int (0), .int (0), .int (0), .long (0), .ref q1, .ref q2, .ref q3, .ref q4, .ref q5, .null])), (q1, .inl (c1, 5, .inl (fun _ => 0))), (q2, .inl (c2, 10, .inr (.inl (fun _ => 0)))), (q3, .inl (c2, 49, .inr (.inl (fun _ => 0)))), (q4, .inl (c2, 49, .inr (.inl (fun _ => 0)))), (q5, .inl (c5, 10, .inl (fun _ => 0))), (q6, .inl (c6, 10, .inl (fun _ => 0)))] H := hP
  have hD : va_D A [(h0, .inr (2, [.int (0), .int (0), .int (0), .int (0), .long (0), .ref q1, .ref q2, .ref q3, .ref q4, .ref q5, .null])), (q1, .inl (c1, 5, .inl (fun _ => 0))), (q2, .inl (c2, 10, .inr (.inl (fun _ => 0)))), (q3, .inl (c2, 49, .inr (.inl (fun _ => 0)))), (q4, .inl (c2, 49, .inr (.inl (fun _ => 0)))), (q5, .inl (c5, 10, .inl (fun _ => 0))), (q6, .inl (c6, 10, .inl (fun _ => 0)))] := hD
  have hK : va_K (dC, dI) vwCl [(c1, .boolean), (c2, .long), (c5, .int), (c6, .int)] s := hK
  have e9 := pm_uq hK (i := 2) (j := 3) rfl rfl
  subst e9
  have hK := hK.sub (tys' := [(c1, .boolean), (c2, .long), (c5, .int)]) [0, 1, 2] rfl
  have hP : va_P (dC, dI) vwCl [(h0, .inr (2, [.int (0), .int (0), .int (0), .int (0), .long (0), .ref q1, .ref q2, .ref q3, .ref q4, .ref q5, .null])), (q1, .inl (c1, 5, .inl (fun _ => 0))), (q2, .inl (c2, 10, .inr (.inl (fun _ => 0)))), (q3, .inl (c2, 49, .inr (.inl (fun _ => 0)))), (q4, .inl (c2, 49, .inr (.inl (fun _ => 0)))), (q5, .inl (c5, 10, .inl (fun _ => 0))), (q6, .inl (c5, 10, .inl (fun _ => 0)))] H := hP
  have hD : va_D A [(h0, .inr (2, [.int (0), .int (0), .int (0), .int (0), .long (0), .ref q1, .ref q2, .ref q3, .ref q4, .ref q5, .null])), (q1, .inl (c1, 5, .inl (fun _ => 0))), (q2, .inl (c2, 10, .inr (.inl (fun _ => 0)))), (q3, .inl (c2, 49, .inr (.inl (fun _ => 0)))), (q4, .inl (c2, 49, .inr (.inl (fun _ => 0)))), (q5, .inl (c5, 10, .inl (fun _ => 0))), (q6, .inl (c5, 10, .inl (fun _ => 0)))] := hD
  refine va_putF (D := (dC, dI)) (ci := 2) (v := .ref q6) (ty := .array .int) (C := RX2) (T := TX2) (N := 11) hx hb hts (pm_lay_in (ci := 2) rfl) tyX2 tyX2_ok nmX2 hown hK hP hD hS 0 rfl rfl 10 (by decide) (hw 181 _ (by decide +kernel)) (fun _ h9 => h9) rfl hin rfl (by decide +kernel) rfl rfl (Nat.le_of_ble_eq_true rfl) (show decode prog_4_method_1_code 73 = .ok (.putfield 47, 3) by decide +kernel) (fun H locs hP hD hS => ?_)
  have hP : va_P (dC, dI) vwCl [(h0, .inr (2, [.int (0), .int (0), .int (0), .int (0), .long (0), .ref q1, .ref q2, .ref q3, .ref q4, .ref q5, .ref q6])), (q1, .inl (c1, 5, .inl (fun _ => 0))), (q2, .inl (c2, 10, .inr (.inl (fun _ => 0)))), (q3, .inl (c2, 49, .inr (.inl (fun _ => 0)))), (q4, .inl (c2, 49, .inr (.inl (fun _ => 0)))), (q5, .inl (c5, 10, .inl (fun _ => 0))), (q6, .inl (c5, 10, .inl (fun _ => 0)))] H := hP
  have hD : va_D A [(h0, .inr (2, [.int (0), .int (0), .int (0), .int (0), .long (0), .ref q1, .ref q2, .ref q3, .ref q4, .ref q5, .ref q6])), (q1, .inl (c1, 5, .inl (fun _ => 0))), (q2, .inl (c2, 10, .inr (.inl (fun _ => 0)))), (q3, .inl (c2, 49, .inr (.inl (fun _ => 0)))), (q4, .inl (c2, 49, .inr (.inl (fun _ => 0)))), (q5, .inl (c5, 10, .inl (fun _ => 0))), (q6, .inl (c5, 10, .inl (fun _ => 0)))] := hD
  exact W.vret hx hb hr (fun t ht hW => ⟨⟨(), rfl, trivial, q1, q2, q3, q4, q5, q6, c1, c2, c5, by rw [ht]; exact hP, va_K.moved hW.alike hK, hD⟩, hS.F ht⟩) hS.2.2 (show decode prog_4_method_1_code 76 = .ok (.return_, 1) by decide +kernel)
abbrev at_ci_X3 (dC : Nat → ClassId) (dI : Nat → Nat → Nat) (A : Nat → Prop) (h0 : Nat) (_ : Unit) (t : State) : Prop := ∃ (q1 : Nat) (c1 : ClassId), va_P (dC, dI) vwCl [(h0, .inr (3, [.int (0), .ref q1])), (q1, .inl (c1, 60, .inl (fun _ => 0)))] t.heap ∧ va_K (dC, dI) vwCl [(c1, .int)] t ∧ va_D A [(h0, .inr (3, [.int (0), .ref q1])), (q1, .inl (c1, 60, .inl (fun _ => 0)))]
set_option maxHeartbeats 4000000 in
set_option maxRecDepth 100000 in
theorem ci_X3 (l : Launch) (dC : Nat → ClassId) (dI : Nat → Nat → Nat) (h0 : Nat) (sz : Nat) : Met l yX3_init (.code yX3_init prog_5_method_1_code 1 none :: pm_Ws) ({ frames := 1, cells := 1, slots := 60, locals := 40 } : Room) (va_Pc [.ref h0] (fun U => U.heap.size = sz ∧ va_P (dC, dI) vwCl [(h0, .inr (3, [.int 0, .null]))] U.heap ∧ va_K (dC, dI) vwCl [] U ∧ va_D (fun _ => True) [(h0, .inr (3, [.int 0, .null]))])) (va_Qv (fun _ : Unit => True) (at_ci_X3 dC dI (va_A [(h0, .inr (3, [.int 0, .null]))] sz) h0) (va_A [(h0, .inr (3, [.int 0, .null]))] sz)) 1 60 (va_A [(h0, .inr (3, [.int 0, .null]))] sz) := by
  refine Met.ofW (cc := prog_5_method_1_code) (maxL := 1) (ret := none) (by decide) rfl ?_
  intro p e s m args below meth c s₁ B hml hv
  obtain ⟨rfl, hsz, hP, hK, hD0⟩ := hv
  have hx := B.exec
  have hb := B.bytes
  have hr := B.returns
  have hts0 := atoms_spec (ws := .code yX3_init prog_5_method_1_code 1 none :: pm_Ws) B.pre
  have hts : ∀ w ∈ pm_Ws, w.before _ s = true := fun w hw => hts0 w (List.mem_cons_of_mem _ hw)
  have hw : ∀ (i : Nat) (w : Jvm.Cond), pm_w i w = true → w.before _ s = true := fun i w h => pm_w_word hts h
  have hown : s.vm.findClass RX3 = some m.cls := findClass_of_methodNamed B.named
  have hlocks := B.notSynchronized
  have hin : meth.name = "<init>" := (name_of_methodNamed B.named B.method).1
  subst hsz
  have hD := hD0.self (sz := s.heap.size)
  generalize hAe : va_A [(h0, .inr (3, [.int 0, .null]))] s.heap.size = A at hD ⊢
  have hA : ∀ q : Nat, s.heap.size ≤ q → A q := fun q h => by rw [← hAe]; exact Or.inr h
  have hS : va_S A s.heap s.heap [] := va_S.rf
  have hP : va_P (dC, dI) vwCl [(h0, .inr (3, [.int 0, .null]))] s.heap := hP
  have hl := lv_entry ([.ref h0]) (n := 1) (Nat.le_of_ble_eq_true rfl)
  rw [lg_entry_eq]
  generalize (lg_sl ([.ref h0]) ++ List.replicate (1 - (lg_sl ([.ref h0])).length) Slot.unset).toArray = ls at hl ⊢
  have hl : lv_has ls 1 [(0, .ref h0)] := hl
  refine lv_aload_n hx hb (show decode prog_5_method_1_code 0 = .ok (.aload_n 0, 1) by decide +kernel) rfl (lv_at hl 0 rfl) ?_
  refine W.objInit hx hb hown (hw 262 _ (by decide +kernel)) (hw 83 _ (by decide +kernel)) (hw 84 _ (by decide +kernel)) rfl (by rw [hml]; exact hl.1) rfl (show decode prog_5_method_1_code 1 = .ok (.invokespecial 3, 3) by decide +kernel) (Nat.le_of_ble_eq_true rfl) (Nat.le_of_ble_eq_true rfl) ?_
  refine W.eq (g2 := F0 m 4 ls []) rfl ?_
  refine lv_aload_n hx hb (show decode prog_5_method_1_code 4 = .ok (.aload_n 0, 1) by decide +kernel) rfl (lv_at hl 0 rfl) ?_
  refine lv_iconst (v := 0) hx hb (show decode prog_5_method_1_code 5 = .ok (.iconst 0, 1) by decide +kernel) (by decide) ?_
  refine va_put (D := (dC, dI)) (ci := 3) (v := .int (0)) (ty := .int) (C := RX3) (T := TX3) (N := 2) hx hb hts (pm_lay_in (ci := 3) rfl) tyX3 tyX3_ok nmX3 hown hK hP hD hS 0 rfl rfl 0 (by decide) (hw 263 _ (by decide +kernel)) (fun _ h9 => h9) rfl (by decide +kernel) rfl rfl (Nat.le_of_ble_eq_true rfl) (show decode prog_5_method_1_code 6 = .ok (.putfield 9, 3) by decide +kernel) (fun H locs hP hD hS => ?_)
  have hP : va_P (dC, dI) vwCl [(h0, .inr (3, [.int (0), .null]))] H := hP
  have hD : va_D A [(h0, .inr (3, [.int (0), .null]))] := hD
  refine lv_aload_n hx hb (show decode prog_5_method_1_code 9 = .ok (.aload_n 0, 1) by decide +kernel) rfl (lv_at hl 0 rfl) ?_
  refine lv_bipush (v := 60) hx hb (show decode prog_5_method_1_code 10 = .ok (.bipush 60, 2) by decide +kernel) (by decide) ?_
  refine va_newa (atype := .int) hx hb (hw 132 _ (by decide +kernel)) rfl hK hP hD hS hA (a0 := (60, .inl (fun _ => 0))) (fun _ => rfl) (by decide) (by decide) (Nat.le_of_ble_eq_true rfl) (Nat.le_of_ble_eq_true rfl) (Nat.le_of_ble_eq_true rfl) (show decode prog_5_method_1_code 12 = .ok (.newarray .int, 2) by decide +kernel) (fun q1 c1 H hK hP hD hS => ?_)
  have hP : va_P (dC, dI) vwCl [(h0, .inr (3, [.int (0), .null])), (q1, .inl (c1, 60, .inl (fun _ => 0)))] H := hP
  have hD : va_D A [(h0, .inr (3, [.int (0), .null])), (q1, .inl (c1, 60, .inl (fun _ => 0)))] := hD
  have hK : va_K (dC, dI) vwCl [(c1, .int)] s := hK
  have hP : va_P (dC, dI) vwCl [(h0, .inr (3, [.int (0), .null])), (q1, .inl (c1, 60, .inl (fun _ => 0)))] H := hP
  have hD : va_D A [(h0, .inr (3, [.int (0), .null])), (q1, .inl (c1, 60, .inl (fun _ => 0)))] := hD
  refine va_putF (D := (dC, dI)) (ci := 3) (v := .ref q1) (ty := .array .int) (C := RX3) (T := TX3) (N := 2) hx hb hts (pm_lay_in (ci := 3) rfl) tyX3 tyX3_ok nmX3 hown hK hP hD hS 0 rfl rfl 1 (by decide) (hw 265 _ (by decide +kernel)) (fun _ h9 => h9) rfl hin rfl (by decide +kernel) rfl rfl (Nat.le_of_ble_eq_true rfl) (show decode prog_5_method_1_code 14 = .ok (.putfield 15, 3) by decide +kernel) (fun H locs hP hD hS => ?_)
  have hP : va_P (dC, dI) vwCl [(h0, .inr (3, [.int (0), .ref q1])), (q1, .inl (c1, 60, .inl (fun _ => 0)))] H := hP
  have hD : va_D A [(h0, .inr (3, [.int (0), .ref q1])), (q1, .inl (c1, 60, .inl (fun _ => 0)))] := hD
  exact W.vret hx hb hr (fun t ht hW => ⟨⟨(), rfl, trivial, q1, c1, by rw [ht]; exact hP, va_K.moved hW.alike hK, hD⟩, hS.F ht⟩) hS.2.2 (show decode prog_5_method_1_code 17 = .ok (.return_, 1) by decide +kernel)
abbrev at_ci_X4 (dC : Nat → ClassId) (dI : Nat → Nat → Nat) (A : Nat → Prop) (h0 : Nat) (_ : Unit) (t : State) : Prop := ∃ (q1 q2 q3 q4 q5 q6 q7 : Nat) (c1 c2 c4 : ClassId), va_P (dC, dI) vwCl [(h0, .inr (4, [.ref q1, .ref q2, .ref q3, .ref q4, .ref q5, .ref q6, .ref q7])), (q1, .inl (c1, 2, .inl (upd ((upd ((fun _ => 0)) 0 (1))) 1 (1)))), (q2, .inl (c2, 2, .inl (fun _ => 0))), (q3, .inl (c1, 2, .inl (fun _ => 0))), (q4, .inl (c4, 10, .inr (.inl (fun _ => 0)))), (q5, .inl (c4, 10, .inr (.inl (fun _ => 0)))), (q6, .inl (c2, 5, .inl (fun _ => 0))), (q7, .inl (c4, 25, .inr (.inl (fun _ => 0))))] t.heap ∧ va_K (dC, dI) vwCl [(c1, .boolean), (c2, .int), (c4, .long)] t ∧ va_D A [(h0, .inr (4, [.ref q1, .ref q2, .ref q3, .ref q4, .ref q5, .ref q6, .ref q7])), (q1, .inl (c1, 2, .inl (upd ((upd ((fun _ => 0)) 0 (1))) 1 (1)))), (q2, .inl (c2, 2, .inl (fun _ => 0))), (q3, .inl (c1, 2, .inl (fun _ => 0))), (q4, .inl (c4, 10, .inr (.inl (fun _ => 0)))), (q5, .inl (c4, 10, .inr (.inl (fun _ => 0)))), (q6, .inl (c2, 5, .inl (fun _ => 0))), (q7, .inl (c4, 25, .inr (.inl (fun _ => 0))))]
set_option maxHeartbeats 4000000 in
set_option maxRecDepth 100000 in
theorem ci_X4 (l : Launch) (dC : Nat → ClassId) (dI : Nat → Nat → Nat) (h0 : Nat) (sz : Nat) : Met l yX4_init (.code yX4_init prog_6_method_1_code 1 none :: pm_Ws) ({ frames := 1, cells := 7, slots := 56, locals := 40 } : Room) (va_Pc [.ref h0] (fun U => U.heap.size = sz ∧ va_P (dC, dI) vwCl [(h0, .inr (4, [.null, .null, .null, .null, .null, .null, .null]))] U.heap ∧ va_K (dC, dI) vwCl [] U ∧ va_D (fun _ => True) [(h0, .inr (4, [.null, .null, .null, .null, .null, .null, .null]))])) (va_Qv (fun _ : Unit => True) (at_ci_X4 dC dI (va_A [(h0, .inr (4, [.null, .null, .null, .null, .null, .null, .null]))] sz) h0) (va_A [(h0, .inr (4, [.null, .null, .null, .null, .null, .null, .null]))] sz)) 7 56 (va_A [(h0, .inr (4, [.null, .null, .null, .null, .null, .null, .null]))] sz) := by
  refine Met.ofW (cc := prog_6_method_1_code) (maxL := 1) (ret := none) (by decide) rfl ?_
  intro p e s m args below meth c s₁ B hml hv
  obtain ⟨rfl, hsz, hP, hK, hD0⟩ := hv
  have hx := B.exec
  have hb := B.bytes
  have hr := B.returns
  have hts0 := atoms_spec (ws := .code yX4_init prog_6_method_1_code 1 none :: pm_Ws) B.pre
  have hts : ∀ w ∈ pm_Ws, w.before _ s = true := fun w hw => hts0 w (List.mem_cons_of_mem _ hw)
  have hw : ∀ (i : Nat) (w : Jvm.Cond), pm_w i w = true → w.before _ s = true := fun i w h => pm_w_word hts h
  have hown : s.vm.findClass RX4 = some m.cls := findClass_of_methodNamed B.named
  have hlocks := B.notSynchronized
  have hin : meth.name = "<init>" := (name_of_methodNamed B.named B.method).1
  subst hsz
  have hD := hD0.self (sz := s.heap.size)
  generalize hAe : va_A [(h0, .inr (4, [.null, .null, .null, .null, .null, .null, .null]))] s.heap.size = A at hD ⊢
  have hA : ∀ q : Nat, s.heap.size ≤ q → A q := fun q h => by rw [← hAe]; exact Or.inr h
  have hS : va_S A s.heap s.heap [] := va_S.rf
  have hP : va_P (dC, dI) vwCl [(h0, .inr (4, [.null, .null, .null, .null, .null, .null, .null]))] s.heap := hP
  have hl := lv_entry ([.ref h0]) (n := 1) (Nat.le_of_ble_eq_true rfl)
  rw [lg_entry_eq]
  generalize (lg_sl ([.ref h0]) ++ List.replicate (1 - (lg_sl ([.ref h0])).length) Slot.unset).toArray = ls at hl ⊢
  have hl : lv_has ls 1 [(0, .ref h0)] := hl
  refine lv_aload_n hx hb (show decode prog_6_method_1_code 0 = .ok (.aload_n 0, 1) by decide +kernel) rfl (lv_at hl 0 rfl) ?_
  refine W.objInit hx hb hown (hw 139 _ (by decide +kernel)) (hw 83 _ (by decide +kernel)) (hw 84 _ (by decide +kernel)) rfl (by rw [hml]; exact hl.1) rfl (show decode prog_6_method_1_code 1 = .ok (.invokespecial 3, 3) by decide +kernel) (Nat.le_of_ble_eq_true rfl) (Nat.le_of_ble_eq_true rfl) ?_
  refine W.eq (g2 := F0 m 4 ls []) rfl ?_
  refine lv_aload_n hx hb (show decode prog_6_method_1_code 4 = .ok (.aload_n 0, 1) by decide +kernel) rfl (lv_at hl 0 rfl) ?_
  refine lv_iconst (v := 2) hx hb (show decode prog_6_method_1_code 5 = .ok (.iconst 2, 1) by decide +kernel) (by decide) ?_
  refine va_newa (atype := .boolean) hx hb (hw 164 _ (by decide +kernel)) rfl hK hP hD hS hA (a0 := (2, .inl (fun _ => 0))) (fun _ => rfl) (by decide) (by decide) (Nat.le_of_ble_eq_true rfl) (Nat.le_of_ble_eq_true rfl) (Nat.le_of_ble_eq_true rfl) (show decode prog_6_method_1_code 6 = .ok (.newarray .boolean, 2) by decide +kernel) (fun q1 c1 H hK hP hD hS => ?_)
  have hP : va_P (dC, dI) vwCl [(h0, .inr (4, [.null, .null, .null, .null, .null, .null, .null])), (q1, .inl (c1, 2, .inl (fun _ => 0)))] H := hP
  have hD : va_D A [(h0, .inr (4, [.null, .null, .null, .null, .null, .null, .null])), (q1, .inl (c1, 2, .inl (fun _ => 0)))] := hD
  have hK : va_K (dC, dI) vwCl [(c1, .boolean)] s := hK
  have hP : va_P (dC, dI) vwCl [(h0, .inr (4, [.null, .null, .null, .null, .null, .null, .null])), (q1, .inl (c1, 2, .inl (fun _ => 0)))] H := hP
  have hD : va_D A [(h0, .inr (4, [.null, .null, .null, .null, .null, .null, .null])), (q1, .inl (c1, 2, .inl (fun _ => 0)))] := hD
  refine lv_dup hx hb (show decode prog_6_method_1_code 8 = .ok (.dup, 1) by decide +kernel) rfl ?_
  refine lv_iconst (v := 0) hx hb (show decode prog_6_method_1_code 9 = .ok (.iconst 0, 1) by decide +kernel) (by decide) ?_
  refine lv_iconst (v := 1) hx hb (show decode prog_6_method_1_code 10 = .ok (.iconst 1, 1) by decide +kernel) (by decide) ?_
  refine va_zast hx hb hK hP hD hS 1 0 rfl rfl (pm_in_vp (by decide)) (show decode prog_6_method_1_code 11 = .ok (.bastore, 1) by decide +kernel) (fun H locs hP hD hS => ?_)
  have hP : va_P (dC, dI) vwCl [(h0, .inr (4, [.null, .null, .null, .null, .null, .null, .null])), (q1, .inl (c1, 2, .inl (upd ((fun _ => 0)) 0 (1))))] H := hP
  have hD : va_D A [(h0, .inr (4, [.null, .null, .null, .null, .null, .null, .null])), (q1, .inl (c1, 2, .inl (upd ((fun _ => 0)) 0 (1))))] := hD
  refine lv_dup hx hb (show decode prog_6_method_1_code 12 = .ok (.dup, 1) by decide +kernel) rfl ?_
  refine lv_iconst (v := 1) hx hb (show decode prog_6_method_1_code 13 = .ok (.iconst 1, 1) by decide +kernel) (by decide) ?_
  refine lv_iconst (v := 1) hx hb (show decode prog_6_method_1_code 14 = .ok (.iconst 1, 1) by decide +kernel) (by decide) ?_
  refine va_zast hx hb hK hP hD hS 1 0 rfl rfl (pm_in_vp (by decide)) (show decode prog_6_method_1_code 15 = .ok (.bastore, 1) by decide +kernel) (fun H locs hP hD hS => ?_)
  have hP : va_P (dC, dI) vwCl [(h0, .inr (4, [.null, .null, .null, .null, .null, .null, .null])), (q1, .inl (c1, 2, .inl (upd ((upd ((fun _ => 0)) 0 (1))) 1 (1))))] H := hP
  have hD : va_D A [(h0, .inr (4, [.null, .null, .null, .null, .null, .null, .null])), (q1, .inl (c1, 2, .inl (upd ((upd ((fun _ => 0)) 0 (1))) 1 (1))))] := hD
  refine va_putF (D := (dC, dI)) (ci := 4) (v := .ref q1) (ty := .array .boolean) (C := RX4) (T := TX4) (N := 7) hx hb hts (pm_lay_in (ci := 4) rfl) tyX4 tyX4_ok nmX4 hown hK hP hD hS 0 rfl rfl 0 (by decide) (hw 140 _ (by decide +kernel)) (fun _ h9 => h9) rfl hin rfl (by decide +kernel) rfl rfl (Nat.le_of_ble_eq_true rfl) (show decode prog_6_method_1_code 16 = .ok (.putfield 9, 3) by decide +kernel) (fun H locs hP hD hS => ?_)
  have hP : va_P (dC, dI) vwCl [(h0, .inr (4, [.ref q1, .null, .null, .null, .null, .null, .null])), (q1, .inl (c1, 2, .inl (upd ((upd ((fun _ => 0)) 0 (1))) 1 (1))))] H := hP
  have hD : va_D A [(h0, .inr (4, [.ref q1, .null, .null, .null, .null, .null, .null])), (q1, .inl (c1, 2, .inl (upd ((upd ((fun _ => 0)) 0 (1))) 1 (1))))] := hD
  refine lv_aload_n hx hb (show decode prog_6_method_1_code 19 = .ok (.aload_n 0, 1) by decide +kernel) rfl (lv_at hl 0 rfl) ?_
  refine lv_iconst (v := 2) hx hb (show decode prog_6_method_1_code 20 = .ok (.iconst 2, 1) by decide +kernel) (by decide) ?_
  refine va_newa (atype := .int) hx hb (hw 132 _ (by decide +kernel)) rfl hK hP hD hS hA (a0 := (2, .inl (fun _ => 0))) (fun _ => rfl) (by decide) (by decide) (Nat.le_of_ble_eq_true rfl) (Nat.le_of_ble_eq_true rfl) (Nat.le_of_ble_eq_true rfl) (show decode prog_6_method_1_code 21 = .ok (.newarray .int, 2) by decide +kernel) (fun q2 c2 H hK hP hD hS => ?_)
  have hP : va_P (dC, dI) vwCl [(h0, .inr (4, [.ref q1, .null, .null, .null, .null, .null, .null])), (q1, .inl (c1, 2, .inl (upd ((upd ((fun _ => 0)) 0 (1))) 1 (1)))), (q2, .inl (c2, 2, .inl (fun _ => 0)))] H := hP
  have hD : va_D A [(h0, .inr (4, [.ref q1, .null, .null, .null, .null, .null, .null])), (q1, .inl (c1, 2, .inl (upd ((upd ((fun _ => 0)) 0 (1))) 1 (1)))), (q2, .inl (c2, 2, .inl (fun _ => 0)))] := hD
  have hK : va_K (dC, dI) vwCl [(c1, .boolean), (c2, .int)] s := hK
  have hP : va_P (dC, dI) vwCl [(h0, .inr (4, [.ref q1, .null, .null, .null, .null, .null, .null])), (q1, .inl (c1, 2, .inl (upd ((upd ((fun _ => 0)) 0 (1))) 1 (1)))), (q2, .inl (c2, 2, .inl (fun _ => 0)))] H := hP
  have hD : va_D A [(h0, .inr (4, [.ref q1, .null, .null, .null, .null, .null, .null])), (q1, .inl (c1, 2, .inl (upd ((upd ((fun _ => 0)) 0 (1))) 1 (1)))), (q2, .inl (c2, 2, .inl (fun _ => 0)))] := hD
  refine va_putF (D := (dC, dI)) (ci := 4) (v := .ref q2) (ty := .array .int) (C := RX4) (T := TX4) (N := 7) hx hb hts (pm_lay_in (ci := 4) rfl) tyX4 tyX4_ok nmX4 hown hK hP hD hS 0 rfl rfl 1 (by decide) (hw 141 _ (by decide +kernel)) (fun _ h9 => h9) rfl hin rfl (by decide +kernel) rfl rfl (Nat.le_of_ble_eq_true rfl) (show decode prog_6_method_1_code 23 = .ok (.putfield 15, 3) by decide +kernel) (fun H locs hP hD hS => ?_)
  have hP : va_P (dC, dI) vwCl [(h0, .inr (4, [.ref q1, .ref q2, .null, .null, .null, .null, .null])), (q1, .inl (c1, 2, .inl (upd ((upd ((fun _ => 0)) 0 (1))) 1 (1)))), (q2, .inl (c2, 2, .inl (fun _ => 0)))] H := hP
  have hD : va_D A [(h0, .inr (4, [.ref q1, .ref q2, .null, .null, .null, .null, .null])), (q1, .inl (c1, 2, .inl (upd ((upd ((fun _ => 0)) 0 (1))) 1 (1)))), (q2, .inl (c2, 2, .inl (fun _ => 0)))] := hD
  refine lv_aload_n hx hb (show decode prog_6_method_1_code 26 = .ok (.aload_n 0, 1) by decide +kernel) rfl (lv_at hl 0 rfl) ?_
  refine lv_iconst (v := 2) hx hb (show decode prog_6_method_1_code 27 = .ok (.iconst 2, 1) by decide +kernel) (by decide) ?_
  refine va_newa (atype := .boolean) hx hb (hw 164 _ (by decide +kernel)) rfl hK hP hD hS hA (a0 := (2, .inl (fun _ => 0))) (fun _ => rfl) (by decide) (by decide) (Nat.le_of_ble_eq_true rfl) (Nat.le_of_ble_eq_true rfl) (Nat.le_of_ble_eq_true rfl) (show decode prog_6_method_1_code 28 = .ok (.newarray .boolean, 2) by decide +kernel) (fun q3 c3 H hK hP hD hS => ?_)
  have hP : va_P (dC, dI) vwCl [(h0, .inr (4, [.ref q1, .ref q2, .null, .null, .null, .null, .null])), (q1, .inl (c1, 2, .inl (upd ((upd ((fun _ => 0)) 0 (1))) 1 (1)))), (q2, .inl (c2, 2, .inl (fun _ => 0))), (q3, .inl (c3, 2, .inl (fun _ => 0)))] H := hP
  have hD : va_D A [(h0, .inr (4, [.ref q1, .ref q2, .null, .null, .null, .null, .null])), (q1, .inl (c1, 2, .inl (upd ((upd ((fun _ => 0)) 0 (1))) 1 (1)))), (q2, .inl (c2, 2, .inl (fun _ => 0))), (q3, .inl (c3, 2, .inl (fun _ => 0)))] := hD
  have hK : va_K (dC, dI) vwCl [(c1, .boolean), (c2, .int), (c3, .boolean)] s := hK
  have e9 := pm_uq hK (i := 0) (j := 2) rfl rfl
  subst e9
  have hK := hK.sub (tys' := [(c1, .boolean), (c2, .int)]) [0, 1] rfl
  have hP : va_P (dC, dI) vwCl [(h0, .inr (4, [.ref q1, .ref q2, .null, .null, .null, .null, .null])), (q1, .inl (c1, 2, .inl (upd ((upd ((fun _ => 0)) 0 (1))) 1 (1)))), (q2, .inl (c2, 2, .inl (fun _ => 0))), (q3, .inl (c1, 2, .inl (fun _ => 0)))] H := hP
  have hD : va_D A [(h0, .inr (4, [.ref q1, .ref q2, .null, .null, .null, .null, .null])), (q1, .inl (c1, 2, .inl (upd ((upd ((fun _ => 0)) 0 (1))) 1 (1)))), (q2, .inl (c2, 2, .inl (fun _ => 0))), (q3, .inl (c1, 2, .inl (fun _ => 0)))] := hD
  refine va_putF (D := (dC, dI)) (ci := 4) (v := .ref q3) (ty := .array .boolean) (C := RX4) (T := TX4) (N := 7) hx hb hts (pm_lay_in (ci := 4) rfl) tyX4 tyX4_ok nmX4 hown hK hP hD hS 0 rfl rfl 2 (by decide) (hw 143 _ (by decide +kernel)) (fun _ h9 => h9) rfl hin rfl (by decide +kernel) rfl rfl (Nat.le_of_ble_eq_true rfl) (show decode prog_6_method_1_code 30 = .ok (.putfield 19, 3) by decide +kernel) (fun H locs hP hD hS => ?_)
  have hP : va_P (dC, dI) vwCl [(h0, .inr (4, [.ref q1, .ref q2, .ref q3, .null, .null, .null, .null])), (q1, .inl (c1, 2, .inl (upd ((upd ((fun _ => 0)) 0 (1))) 1 (1)))), (q2, .inl (c2, 2, .inl (fun _ => 0))), (q3, .inl (c1, 2, .inl (fun _ => 0)))] H := hP
  have hD : va_D A [(h0, .inr (4, [.ref q1, .ref q2, .ref q3, .null, .null, .null, .null])), (q1, .inl (c1, 2, .inl (upd ((upd ((fun _ => 0)) 0 (1))) 1 (1)))), (q2, .inl (c2, 2, .inl (fun _ => 0))), (q3, .inl (c1, 2, .inl (fun _ => 0)))] := hD
  refine lv_aload_n hx hb (show decode prog_6_method_1_code 33 = .ok (.aload_n 0, 1) by decide +kernel) rfl (lv_at hl 0 rfl) ?_
  refine lv_bipush (v := 10) hx hb (show decode prog_6_method_1_code 34 = .ok (.bipush 10, 2) by decide +kernel) (by decide) ?_
  refine va_newa (atype := .long) hx hb (hw 133 _ (by decide +kernel)) rfl hK hP hD hS hA (a0 := (10, .inr (.inl (fun _ => 0)))) (fun _ => rfl) (by decide) (by decide) (Nat.le_of_ble_eq_true rfl) (Nat.le_of_ble_eq_true rfl) (Nat.le_of_ble_eq_true rfl) (show decode prog_6_method_1_code 36 = .ok (.newarray .long, 2) by decide +kernel) (fun q4 c4 H hK hP hD hS => ?_)
  have hP : va_P (dC, dI) vwCl [(h0, .inr (4, [.ref q1, .ref q2, .ref q3, .null, .null, .null, .null])), (q1, .inl (c1, 2, .inl (upd ((upd ((fun _ => 0)) 0 (1))) 1 (1)))), (q2, .inl (c2, 2, .inl (fun _ => 0))), (q3, .inl (c1, 2, .inl (fun _ => 0))), (q4, .inl (c4, 10, .inr (.inl (fun _ => 0))))] H := hP
  have hD : va_D A [(h0, .inr (4, [.ref q1, .ref q2, .ref q3, .null, .null, .null, .null])), (q1, .inl (c1, 2, .inl (upd ((upd ((fun _ => 0)) 0 (1))) 1 (1)))), (q2, .inl (c2, 2, .inl (fun _ => 0))), (q3, .inl (c1, 2, .inl (fun _ => 0))), (q4, .inl (c4, 10, .inr (.inl (fun _ => 0))))] := hD
  have hK : va_K (dC, dI) vwCl [(c1, .boolean), (c2, .int), (c4, .long)] s := hK
  have hP : va_P (dC, dI) vwCl [(h0, .inr (4, [.ref q1, .ref q2, .ref q3, .null, .null, .null, .null])), (q1, .inl (c1, 2, .inl (upd ((upd ((fun _ => 0)) 0 (1))) 1 (1)))), (q2, .inl (c2, 2, .inl (fun _ => 0))), (q3, .inl (c1, 2, .inl (fun _ => 0))), (q4, .inl (c4, 10, .inr (.inl (fun _ => 0))))] H := hP
  have hD : va_D A [(h0, .inr (4, [.ref q1, .ref q2, .ref q3, .null, .null, .null, .null])), (q1, .inl (c1, 2, .inl (upd ((upd ((fun _ => 0)) 0 (1))) 1 (1)))), (q2, .inl (c2, 2, .inl (fun _ => 0))), (q3, .inl (c1, 2, .inl (fun _ => 0))), (q4, .inl (c4, 10, .inr (.inl (fun _ => 0))))] := hD
  refine va_putF (D := (dC, dI)) (ci := 4) (v := .ref q4) (ty := .array .long) (C := RX4) (T := TX4) (N := 7) hx hb hts (pm_lay_in (ci := 4) rfl) tyX4 tyX4_ok nmX4 hown hK hP hD hS 0 rfl rfl 3 (by decide) (hw 145 _ (by decide +kernel)) (fun _ h9 => h9) rfl hin rfl (by decide +kernel) rfl rfl (Nat.le_of_ble_eq_true rfl) (show decode prog_6_method_1_code 38 = .ok (.putfield 22, 3) by decide +kernel) (fun H locs hP hD hS => ?_)
  have hP : va_P (dC, dI) vwCl [(h0, .inr (4, [.ref q1, .ref q2, .ref q3, .ref q4, .null, .null, .null])), (q1, .inl (c1, 2, .inl (upd ((upd ((fun _ => 0)) 0 (1))) 1 (1)))), (q2, .inl (c2, 2, .inl (fun _ => 0))), (q3, .inl (c1, 2, .inl (fun _ => 0))), (q4, .inl (c4, 10, .inr (.inl (fun _ => 0))))] H := hP
  have hD : va_D A [(h0, .inr (4, [.ref q1, .ref q2, .ref q3, .ref q4, .null, .null, .null])), (q1, .inl (c1, 2, .inl (upd ((upd ((fun _ => 0)) 0 (1))) 1 (1)))), (q2, .inl (c2, 2, .inl (fun _ => 0))), (q3, .inl (c1, 2, .inl (fun _ => 0))), (q4, .inl (c4, 10, .inr (.inl (fun _ => 0))))] := hD
  refine lv_aload_n hx hb (show decode prog_6_method_1_code 41 = .ok (.aload_n 0, 1) by decide +kernel) rfl (lv_at hl 0 rfl) ?_
  refine lv_bipush (v := 10) hx hb (show decode prog_6_method_1_code 42 = .ok (.bipush 10, 2) by decide +kernel) (by decide) ?_
  refine va_newa (atype := .long) hx hb (hw 133 _ (by decide +kernel)) rfl hK hP hD hS hA (a0 := (10, .inr (.inl (fun _ => 0)))) (fun _ => rfl) (by decide) (by decide) (Nat.le_of_ble_eq_true rfl) (Nat.le_of_ble_eq_true rfl) (Nat.le_of_ble_eq_true rfl) (show decode prog_6_method_1_code 44 = .ok (.newarray .long, 2) by decide +kernel) (fun q5 c5 H hK hP hD hS => ?_)
  have hP : va_P (dC, dI) vwCl [(h0, .inr (4, [.ref q1, .ref q2, .ref q3, .ref q4, .null, .null, .null])), (q1, .inl (c1, 2, .inl (upd ((upd ((fun _ => 0)) 0 (1))) 1 (1)))), (q2, .inl (c2, 2, .inl (fun _ => 0))), (q3, .inl (c1, 2, .inl (fun _ => 0))), (q4, .inl (c4, 10, .inr (.inl (fun _ => 0)))), (q5, .inl (c5, 10, .inr (.inl (fun _ => 0))))] H := hP
  have hD : va_D A [(h0, .inr (4, [.ref q1, .ref q2, .ref q3, .ref q4, .null, .null, .null])), (q1, .inl (c1, 2, .inl (upd ((upd ((fun _ => 0)) 0 (1))) 1 (1)))), (q2, .inl (c2, 2, .inl (fun _ => 0))), (q3, .inl (c1, 2, .inl (fun _ => 0))), (q4, .inl (c4, 10, .inr (.inl (fun _ => 0)))), (q5, .inl (c5, 10, .inr (.inl (fun _ => 0))))] := hD
  have hK : va_K (dC, dI) vwCl [(c1, .boolean), (c2, .int), (c4, .long), (c5, .long)] s := hK
  have e9 := pm_uq hK (i := 2) (j := 3) rfl rfl
  subst e9
  have hK := hK.sub (tys' := [(c1, .boolean), (c2, .int), (c4, .long)]) [0, 1, 2] rfl
  have hP : va_P (dC, dI) vwCl [(h0, .inr (4, [.ref q1, .ref q2, .ref q3, .ref q4, .null, .null, .null])), (q1, .inl (c1, 2, .inl (upd ((upd ((fun _ => 0)) 0 (1))) 1 (1)))), (q2, .inl (c2, 2, .inl (fun _ => 0))), (q3, .inl (c1, 2, .inl (fun _ => 0))), (q4, .inl (c4, 10, .inr (.inl (fun _ => 0)))), (q5, .inl (c4, 10, .inr (.inl (fun _ => 0))))] H := hP
  have hD : va_D A [(h0, .inr (4, [.ref q1, .ref q2, .ref q3, .ref q4, .null, .null, .null])), (q1, .inl (c1, 2, .inl (upd ((upd ((fun _ => 0)) 0 (1))) 1 (1)))), (q2, .inl (c2, 2, .inl (fun _ => 0))), (q3, .inl (c1, 2, .inl (fun _ => 0))), (q4, .inl (c4, 10, .inr (.inl (fun _ => 0)))), (q5, .inl (c4, 10, .inr (.inl (fun _ => 0))))] := hD
  refine va_putF (D := (dC, dI)) (ci := 4) (v := .ref q5) (ty := .array .long) (C := RX4) (T := TX4) (N := 7) hx hb hts (pm_lay_in (ci := 4) rfl) tyX4 tyX4_ok nmX4 hown hK hP hD hS 0 rfl rfl 4 (by decide) (hw 146 _ (by decide +kernel)) (fun _ h9 => h9) rfl hin rfl (by decide +kernel) rfl rfl (Nat.le_of_ble_eq_true rfl) (show decode prog_6_method_1_code 46 = .ok (.putfield 26, 3) by decide +kernel) (fun H locs hP hD hS => ?_)
  have hP : va_P (dC, dI) vwCl [(h0, .inr (4, [.ref q1, .ref q2, .ref q3, .ref q4, .ref q5, .null, .null])), (q1, .inl (c1, 2, .inl (upd ((upd ((fun _ => 0)) 0 (1))) 1 (1)))), (q2, .inl (c2, 2, .inl (fun _ => 0))), (q3, .inl (c1, 2, .inl (fun _ => 0))), (q4, .inl (c4, 10, .inr (.inl (fun _ => 0)))), (q5, .inl (c4, 10, .inr (.inl (fun _ => 0))))] H := hP
  have hD : va_D A [(h0, .inr (4, [.ref q1, .ref q2, .ref q3, .ref q4, .ref q5, .null, .null])), (q1, .inl (c1, 2, .inl (upd ((upd ((fun _ => 0)) 0 (1))) 1 (1)))), (q2, .inl (c2, 2, .inl (fun _ => 0))), (q3, .inl (c1, 2, .inl (fun _ => 0))), (q4, .inl (c4, 10, .inr (.inl (fun _ => 0)))), (q5, .inl (c4, 10, .inr (.inl (fun _ => 0))))] := hD
  refine lv_aload_n hx hb (show decode prog_6_method_1_code 49 = .ok (.aload_n 0, 1) by decide +kernel) rfl (lv_at hl 0 rfl) ?_
  refine lv_iconst (v := 5) hx hb (show decode prog_6_method_1_code 50 = .ok (.iconst 5, 1) by decide +kernel) (by decide) ?_
  refine va_newa (atype := .int) hx hb (hw 132 _ (by decide +kernel)) rfl hK hP hD hS hA (a0 := (5, .inl (fun _ => 0))) (fun _ => rfl) (by decide) (by decide) (Nat.le_of_ble_eq_true rfl) (Nat.le_of_ble_eq_true rfl) (Nat.le_of_ble_eq_true rfl) (show decode prog_6_method_1_code 51 = .ok (.newarray .int, 2) by decide +kernel) (fun q6 c6 H hK hP hD hS => ?_)
  have hP : va_P (dC, dI) vwCl [(h0, .inr (4, [.ref q1, .ref q2, .ref q3, .ref q4, .ref q5, .null, .null])), (q1, .inl (c1, 2, .inl (upd ((upd ((fun _ => 0)) 0 (1))) 1 (1)))), (q2, .inl (c2, 2, .inl (fun _ => 0))), (q3, .inl (c1, 2, .inl (fun _ => 0))), (q4, .inl (c4, 10, .inr (.inl (fun _ => 0)))), (q5, .inl (c4, 10, .inr (.inl (fun _ => 0)))), (q6, .inl (c6, 5, .inl (fun _ => 0)))] H := hP
  have hD : va_D A [(h0, .inr (4, [.ref q1, .ref q2, .ref q3, .ref q4, .ref q5, .null, .null])), (q1, .inl (c1, 2, .inl (upd ((upd ((fun _ => 0)) 0 (1))) 1 (1)))), (q2, .inl (c2, 2, .inl (fun _ => 0))), (q3, .inl (c1, 2, .inl (fun _ => 0))), (q4, .inl (c4, 10, .inr (.inl (fun _ => 0)))), (q5, .inl (c4, 10, .inr (.inl (fun _ => 0)))), (q6, .inl (c6, 5, .inl (fun _ => 0)))] := hD
  have hK : va_K (dC, dI) vwCl [(c1, .boolean), (c2, .int), (c4, .long), (c6, .int)] s := hK
  have e9 := pm_uq hK (i := 1) (j := 3) rfl rfl
  subst e9
  have hK := hK.sub (tys' := [(c1, .boolean), (c2, .int), (c4, .long)]) [0, 1, 2] rfl
  have hP : va_P (dC, dI) vwCl [(h0, .inr (4, [.ref q1, .ref q2, .ref q3, .ref q4, .ref q5, .null, .null])), (q1, .inl (c1, 2, .inl (upd ((upd ((fun _ => 0)) 0 (1))) 1 (1)))), (q2, .inl (c2, 2, .inl (fun _ => 0))), (q3, .inl (c1, 2, .inl (fun _ => 0))), (q4, .inl (c4, 10, .inr (.inl (fun _ => 0)))), (q5, .inl (c4, 10, .inr (.inl (fun _ => 0)))), (q6, .inl (c2, 5, .inl (fun _ => 0)))] H := hP
  have hD : va_D A [(h0, .inr (4, [.ref q1, .ref q2, .ref q3, .ref q4, .ref q5, .null, .null])), (q1, .inl (c1, 2, .inl (upd ((upd ((fun _ => 0)) 0 (1))) 1 (1)))), (q2, .inl (c2, 2, .inl (fun _ => 0))), (q3, .inl (c1, 2, .inl (fun _ => 0))), (q4, .inl (c4, 10, .inr (.inl (fun _ => 0)))), (q5, .inl (c4, 10, .inr (.inl (fun _ => 0)))), (q6, .inl (c2, 5, .inl (fun _ => 0)))] := hD
  refine va_putF (D := (dC, dI)) (ci := 4) (v := .ref q6) (ty := .array .int) (C := RX4) (T := TX4) (N := 7) hx hb hts (pm_lay_in (ci := 4) rfl) tyX4 tyX4_ok nmX4 hown hK hP hD hS 0 rfl rfl 5 (by decide) (hw 147 _ (by decide +kernel)) (fun _ h9 => h9) rfl hin rfl (by decide +kernel) rfl rfl (Nat.le_of_ble_eq_true rfl) (show decode prog_6_method_1_code 53 = .ok (.putfield 29, 3) by decide +kernel) (fun H locs hP hD hS => ?_)
  have hP : va_P (dC, dI) vwCl [(h0, .inr (4, [.ref q1, .ref q2, .ref q3, .ref q4, .ref q5, .ref q6, .null])), (q1, .inl (c1, 2, .inl (upd ((upd ((fun _ => 0)) 0 (1))) 1 (1)))), (q2, .inl (c2, 2, .inl (fun _ => 0))), (q3, .inl (c1, 2, .inl (fun _ => 0))), (q4, .inl (c4, 10, .inr (.inl (fun _ => 0)))), (q5, .inl (c4, 10, .inr (.inl (fun _ => 0)))), (q6, .inl (c2, 5, .inl (fun _ => 0)))] H := hP
  have hD : va_D A [(h0, .inr (4, [.ref q1, .ref q2, .ref q3, .ref q4, .ref q5, .ref q6, .null])), (q1, .inl (c1, 2, .inl (upd ((upd ((fun _ => 0)) 0 (1))) 1 (1)))), (q2, .inl (c2, 2, .inl (fun _ => 0))), (q3, .inl (c1, 2, .inl (fun _ => 0))), (q4, .inl (c4, 10, .inr (.inl (fun _ => 0)))), (q5, .inl (c4, 10, .inr (.inl (fun _ => 0)))), (q6, .inl (c2, 5, .inl (fun _ => 0)))] := hD
  refine lv_aload_n hx hb (show decode prog_6_method_1_code 56 = .ok (.aload_n 0, 1) by decide +kernel) rfl (lv_at hl 0 rfl) ?_
  refine lv_bipush (v := 25) hx hb (show decode prog_6_method_1_code 57 = .ok (.bipush 25, 2) by decide +kernel) (by decide) ?_
  refine va_newa (atype := .long) hx hb (hw 133 _ (by decide +kernel)) rfl hK hP hD hS hA (a0 := (25, .inr (.inl (fun _ => 0)))) (fun _ => rfl) (by decide) (by decide) (Nat.le_of_ble_eq_true rfl) (Nat.le_of_ble_eq_true rfl) (Nat.le_of_ble_eq_true rfl) (show decode prog_6_method_1_code 59 = .ok (.newarray .long, 2) by decide +kernel) (fun q7 c7 H hK hP hD hS => ?_)
  have hP : va_P (dC, dI) vwCl [(h0, .inr (4, [.ref q1, .ref q2, .ref q3, .ref q4, .ref q5, .ref q6, .null])), (q1, .inl (c1, 2, .inl (upd ((upd ((fun _ => 0)) 0 (1))) 1 (1)))), (q2, .inl (c2, 2, .inl (fun _ => 0))), (q3, .inl (c1, 2, .inl (fun _ => 0))), (q4, .inl (c4, 10, .inr (.inl (fun _ => 0)))), (q5, .inl (c4, 10, .inr (.inl (fun _ => 0)))), (q6, .inl (c2, 5, .inl (fun _ => 0))), (q7, .inl (c7, 25, .inr (.inl (fun _ => 0))))] H := hP
  have hD : va_D A [(h0, .inr (4, [.ref q1, .ref q2, .ref q3, .ref q4, .ref q5, .ref q6, .null])), (q1, .inl (c1, 2, .inl (upd ((upd ((fun _ => 0)) 0 (1))) 1 (1)))), (q2, .inl (c2, 2, .inl (fun _ => 0))), (q3, .inl (c1, 2, .inl (fun _ => 0))), (q4, .inl (c4, 10, .inr (.inl (fun _ => 0)))), (q5, .inl (c4, 10, .inr (.inl (fun _ => 0)))), (q6, .inl (c2, 5, .inl (fun _ => 0))), (q7, .inl (c7, 25, .inr (.inl (fun _ => 0))))] := hD
  have hK : va_K (dC, dI) vwCl [(c1, .boolean), (c2, .int), (c4, .long), (c7, .long)] s := hK
  have e9 := pm_uq hK (i := 2) (j := 3) rfl rfl
  subst e9
  have hK := hK.sub (tys' := [(c1, .boolean), (c2, .int), (c4, .long)]) [0, 1, 2] rfl
  have hP : va_P (dC, dI) vwCl [(h0, .inr (4, [.ref q1, .ref q2, .ref q3, .ref q4, .ref q5, .ref q6, .null])), (q1, .inl (c1, 2, .inl (upd ((upd ((fun _ => 0)) 0 (1))) 1 (1)))), (q2, .inl (c2, 2, .inl (fun _ => 0))), (q3, .inl (c1, 2, .inl (fun _ => 0))), (q4, .inl (c4, 10, .inr (.inl (fun _ => 0)))), (q5, .inl (c4, 10, .inr (.inl (fun _ => 0)))), (q6, .inl (c2, 5, .inl (fun _ => 0))), (q7, .inl (c4, 25, .inr (.inl (fun _ => 0))))] H := hP
  have hD : va_D A [(h0, .inr (4, [.ref q1, .ref q2, .ref q3, .ref q4, .ref q5, .ref q6, .null])), (q1, .inl (c1, 2, .inl (upd ((upd ((fun _ => 0)) 0 (1))) 1 (1)))), (q2, .inl (c2, 2, .inl (fun _ => 0))), (q3, .inl (c1, 2, .inl (fun _ => 0))), (q4, .inl (c4, 10, .inr (.inl (fun _ => 0)))), (q5, .inl (c4, 10, .inr (.inl (fun _ => 0)))), (q6, .inl (c2, 5, .inl (fun _ => 0))), (q7, .inl (c4, 25, .inr (.inl (fun _ => 0))))] := hD
  refine va_putF (D := (dC, dI)) (ci := 4) (v := .ref q7) (ty := .array .long) (C := RX4) (T := TX4) (N := 7) hx hb hts (pm_lay_in (ci := 4) rfl) tyX4 tyX4_ok nmX4 hown hK hP hD hS 0 rfl rfl 6 (by decide) (hw 148 _ (by decide +kernel)) (fun _ h9 => h9) rfl hin rfl (by decide +kernel) rfl rfl (Nat.le_of_ble_eq_true rfl) (show decode prog_6_method_1_code 61 = .ok (.putfield 32, 3) by decide +kernel) (fun H locs hP hD hS => ?_)
  have hP : va_P (dC, dI) vwCl [(h0, .inr (4, [.ref q1, .ref q2, .ref q3, .ref q4, .ref q5, .ref q6, .ref q7])), (q1, .inl (c1, 2, .inl (upd ((upd ((fun _ => 0)) 0 (1))) 1 (1)))), (q2, .inl (c2, 2, .inl (fun _ => 0))), (q3, .inl (c1, 2, .inl (fun _ => 0))), (q4, .inl (c4, 10, .inr (.inl (fun _ => 0)))), (q5, .inl (c4, 10, .inr (.inl (fun _ => 0)))), (q6, .inl (c2, 5, .inl (fun _ => 0))), (q7, .inl (c4, 25, .inr (.inl (fun _ => 0))))] H := hP
  have hD : va_D A [(h0, .inr (4, [.ref q1, .ref q2, .ref q3, .ref q4, .ref q5, .ref q6, .ref q7])), (q1, .inl (c1, 2, .inl (upd ((upd ((fun _ => 0)) 0 (1))) 1 (1)))), (q2, .inl (c2, 2, .inl (fun _ => 0))), (q3, .inl (c1, 2, .inl (fun _ => 0))), (q4, .inl (c4, 10, .inr (.inl (fun _ => 0)))), (q5, .inl (c4, 10, .inr (.inl (fun _ => 0)))), (q6, .inl (c2, 5, .inl (fun _ => 0))), (q7, .inl (c4, 25, .inr (.inl (fun _ => 0))))] := hD
  exact W.vret hx hb hr (fun t ht hW => ⟨⟨(), rfl, trivial, q1, q2, q3, q4, q5, q6, q7, c1, c2, c4, by rw [ht]; exact hP, va_K.moved hW.alike hK, hD⟩, hS.F ht⟩) hS.2.2 (show decode prog_6_method_1_code 64 = .ok (.return_, 1) by decide +kernel)
abbrev at_ci_X5 (dC : Nat → ClassId) (dI : Nat → Nat → Nat) (A : Nat → Prop) (h0 : Nat) (_ : Unit) (t : State) : Prop := ∃ (q1 q2 q3 q4 q5 q6 : Nat) (c1 : ClassId), va_P (dC, dI) vwCl [(h0, .inr (5, [.int (0), .int (0), .int (0), .int (0), .int (1), .int (0), .ref q1, .ref q2, .ref q3, .ref q4, .ref q5, .ref q6])), (q1, .inl (c1, 40, .inl (fun _ => 0))), (q2, .inl (c1, 5, .inl (fun _ => 0))), (q3, .inl (c1, 8, .inl (fun _ => 0))), (q4, .inl (c1, 8, .inl (fun _ => 0))), (q5, .inl (c1, 10, .inl (fun _ => 0))), (q6, .inl (c1, 8, .inl (fun _ => 0)))] t.heap ∧ va_K (dC, dI) vwCl [(c1, .int)] t ∧ va_D A [(h0, .inr (5, [.int (0), .int (0), .int (0), .int (0), .int (1), .int (0), .ref q1, .ref q2, .ref q3, .ref q4, .ref q5, .ref q6])), (q1, .inl (c1, 40, .inl (fun _ => 0))), (q2, .inl (c1, 5, .inl (fun _ => 0))), (q3, .inl (c1, 8, .inl (fun _ => 0))), (q4, .inl (c1, 8, .inl (fun _ => 0))), (q5, .inl (c1, 10, .inl (fun _ => 0))), (q6, .inl (c1, 8, .inl (fun _ => 0)))]
set_option maxHeartbeats 4000000 in
set_option maxRecDepth 100000 in
theorem ci_X5 (l : Launch) (dC : Nat → ClassId) (dI : Nat → Nat → Nat) (h0 : Nat) (sz : Nat) : Met l yX5_init (.code yX5_init prog_7_method_1_code 1 none :: pm_Ws) ({ frames := 1, cells := 6, slots := 79, locals := 40 } : Room) (va_Pc [.ref h0] (fun U => U.heap.size = sz ∧ va_P (dC, dI) vwCl [(h0, .inr (5, [.int 0, .int 0, .int 0, .int 0, .int 0, .int 0, .null, .null, .null, .null, .null, .null]))] U.heap ∧ va_K (dC, dI) vwCl [] U ∧ va_D (fun _ => True) [(h0, .inr (5, [.int 0, .int 0, .int 0, .int 0, .int 0, .int 0, .null, .null, .null, .null, .null, .null]))])) (va_Qv (fun _ : Unit => True) (at_ci_X5 dC dI (va_A [(h0, .inr (5, [.int 0, .int 0, .int 0, .int 0, .int 0, .int 0, .null, .null, .null, .null, .null, .null]))] sz) h0) (va_A [(h0, .inr (5, [.int 0, .int 0, .int 0, .int 0, .int 0, .int 0, .null, .null, .null, .null, .null, .null]))] sz)) 6 79 (va_A [(h0, .inr (5, [.int 0, .int 0, .int 0, .int 0, .int 0, .int 0, .null, .null, .null, .null, .null, .null]))] sz) := by
  refine Met.ofW (cc := prog_7_method_1_code) (maxL := 1) (ret := none) (by decide) rfl ?_
  intro p e s m args below meth c s₁ B hml hv
  obtain ⟨rfl, hsz, hP, hK, hD0⟩ := hv
  have hx := B.exec
  have hb := B.bytes
  have hr := B.returns
  have hts0 := atoms_spec (ws := .code yX5_init prog_7_method_1_code 1 none :: pm_Ws) B.pre
  have hts : ∀ w ∈ pm_Ws, w.before _ s = true := fun w hw => hts0 w (List.mem_cons_of_mem _ hw)
  have hw : ∀ (i : Nat) (w : Jvm.Cond), pm_w i w = true → w.before _ s = true := fun i w h => pm_w_word hts h
  have hown : s.vm.findClass RX5 = some m.cls := findClass_of_methodNamed B.named
  have hlocks := B.notSynchronized
  have hin : meth.name = "<init>" := (name_of_methodNamed B.named B.method).1
  subst hsz
  have hD := hD0.self (sz := s.heap.size)
  generalize hAe : va_A [(h0, .inr (5, [.int 0, .int 0, .int 0, .int 0, .int 0, .int 0, .null, .null, .null, .null, .null, .null]))] s.heap.size = A at hD ⊢
  have hA : ∀ q : Nat, s.heap.size ≤ q → A q := fun q h => by rw [← hAe]; exact Or.inr h
  have hS : va_S A s.heap s.heap [] := va_S.rf
  have hP : va_P (dC, dI) vwCl [(h0, .inr (5, [.int 0, .int 0, .int 0, .int 0, .int 0, .int 0, .null, .null, .null, .null, .null, .null]))] s.heap := hP
  have hl := lv_entry ([.ref h0]) (n := 1) (Nat.le_of_ble_eq_true rfl)
  rw [lg_entry_eq]
  generalize (lg_sl ([.ref h0]) ++ List.replicate (1 - (lg_sl ([.ref h0])).length) Slot.unset).toArray = ls at hl ⊢
  have hl : lv_has ls 1 [(0, .ref h0)] := hl
  refine lv_aload_n hx hb (show decode prog_7_method_1_code 0 = .ok (.aload_n 0, 1) by decide +kernel) rfl (lv_at hl 0 rfl) ?_
  refine W.objInit hx hb hown (hw 210 _ (by decide +kernel)) (hw 83 _ (by decide +kernel)) (hw 84 _ (by decide +kernel)) rfl (by rw [hml]; exact hl.1) rfl (show decode prog_7_method_1_code 1 = .ok (.invokespecial 3, 3) by decide +kernel) (Nat.le_of_ble_eq_true rfl) (Nat.le_of_ble_eq_true rfl) ?_
  refine W.eq (g2 := F0 m 4 ls []) rfl ?_
  refine lv_aload_n hx hb (show decode prog_7_method_1_code 4 = .ok (.aload_n 0, 1) by decide +kernel) rfl (lv_at hl 0 rfl) ?_
  refine lv_iconst (v := 0) hx hb (show decode prog_7_method_1_code 5 = .ok (.iconst 0, 1) by decide +kernel) (by decide) ?_
  refine va_put (D := (dC, dI)) (ci := 5) (v := .int (0)) (ty := .boolean) (C := RX5) (T := TX5) (N := 12) hx hb hts (pm_lay_in (ci := 5) rfl) tyX5 tyX5_ok nmX5 hown hK hP hD hS 0 rfl rfl 0 (by decide) (hw 211 _ (by decide +kernel)) (fun _ h9 => h9) rfl (by decide +kernel) rfl rfl (Nat.le_of_ble_eq_true rfl) (show decode prog_7_method_1_code 6 = .ok (.putfield 9, 3) by decide +kernel) (fun H locs hP hD hS => ?_)
  have hP : va_P (dC, dI) vwCl [(h0, .inr (5, [.int (0), .int 0, .int 0, .int 0, .int 0, .int 0, .null, .null, .null, .null, .null, .null]))] H := hP
  have hD : va_D A [(h0, .inr (5, [.int (0), .int 0, .int 0, .int 0, .int 0, .int 0, .null, .null, .null, .null, .null, .null]))] := hD
  refine lv_aload_n hx hb (show decode prog_7_method_1_code 9 = .ok (.aload_n 0, 1) by decide +kernel) rfl (lv_at hl 0 rfl) ?_
  refine lv_iconst (v := 0) hx hb (show decode prog_7_method_1_code 10 = .ok (.iconst 0, 1) by decide +kernel) (by decide) ?_
  refine va_put (D := (dC, dI)) (ci := 5) (v := .int (0)) (ty := .int) (C := RX5) (T := TX5) (N := 12) hx hb hts (pm_lay_in (ci := 5) rfl) tyX5 tyX5_ok nmX5 hown hK hP hD hS 0 rfl rfl 1 (by decide) (hw 213 _ (by decide +kernel)) (fun _ h9 => h9) rfl (by decide +kernel) rfl rfl (Nat.le_of_ble_eq_true rfl) (show decode prog_7_method_1_code 11 = .ok (.putfield 15, 3) by decide +kernel) (fun H locs hP hD hS => ?_)
  have hP : va_P (dC, dI) vwCl [(h0, .inr (5, [.int (0), .int (0), .int 0, .int 0, .int 0, .int 0, .null, .null, .null, .null, .null, .null]))] H := hP
  have hD : va_D A [(h0, .inr (5, [.int (0), .int (0), .int 0, .int 0, .int 0, .int 0, .null, .null, .null, .null, .null, .null]))] := hD
  refine lv_aload_n hx hb (show decode prog_7_method_1_code 14 = .ok (.aload_n 0, 1) by decide +kernel) rfl (lv_at hl 0 rfl) ?_
  refine lv_iconst (v := 0) hx hb (show decode prog_7_method_1_code 15 = .ok (.iconst 0, 1) by decide +kernel) (by decide) ?_
  refine va_put (D := (dC, dI)) (ci := 5) (v := .int (0)) (ty := .int) (C := RX5) (T := TX5) (N := 12) hx hb hts (pm_lay_in (ci := 5) rfl) tyX5 tyX5_ok nmX5 hown hK hP hD hS 0 rfl rfl 2 (by decide) (hw 215 _ (by decide +kernel)) (fun _ h9 => h9) rfl (by decide +kernel) rfl rfl (Nat.le_of_ble_eq_true rfl) (show decode prog_7_method_1_code 16 = .ok (.putfield 19, 3) by decide +kernel) (fun H locs hP hD hS => ?_)
  have hP : va_P (dC, dI) vwCl [(h0, .inr (5, [.int (0), .int (0), .int (0), .int 0, .int 0, .int 0, .null, .null, .null, .null, .null, .null]))] H := hP
  have hD : va_D A [(h0, .inr (5, [.int (0), .int (0), .int (0), .int 0, .int 0, .int 0, .null, .null, .null, .null, .null, .null]))] := hD
  refine lv_aload_n hx hb (show decode prog_7_method_1_code 19 = .ok (.aload_n 0, 1) by decide +kernel) rfl (lv_at hl 0 rfl) ?_
  refine lv_iconst (v := 0) hx hb (show decode prog_7_method_1_code 20 = .ok (.iconst 0, 1) by decide +kernel) (by decide) ?_
  refine va_put (D := (dC, dI)) (ci := 5) (v := .int (0)) (ty := .int) (C := RX5) (T := TX5) (N := 12) hx hb hts (pm_lay_in (ci := 5) rfl) tyX5 tyX5_ok nmX5 hown hK hP hD hS 0 rfl rfl 3 (by decide) (hw 216 _ (by decide +kernel)) (fun _ h9 => h9) rfl (by decide +kernel) rfl rfl (Nat.le_of_ble_eq_true rfl) (show decode prog_7_method_1_code 21 = .ok (.putfield 22, 3) by decide +kernel) (fun H locs hP hD hS => ?_)
  have hP : va_P (dC, dI) vwCl [(h0, .inr (5, [.int (0), .int (0), .int (0), .int (0), .int 0, .int 0, .null, .null, .null, .null, .null, .null]))] H := hP
  have hD : va_D A [(h0, .inr (5, [.int (0), .int (0), .int (0), .int (0), .int 0, .int 0, .null, .null, .null, .null, .null, .null]))] := hD
  refine lv_aload_n hx hb (show decode prog_7_method_1_code 24 = .ok (.aload_n 0, 1) by decide +kernel) rfl (lv_at hl 0 rfl) ?_
  refine lv_iconst (v := 1) hx hb (show decode prog_7_method_1_code 25 = .ok (.iconst 1, 1) by decide +kernel) (by decide) ?_
  refine va_put (D := (dC, dI)) (ci := 5) (v := .int (1)) (ty := .int) (C := RX5) (T := TX5) (N := 12) hx hb hts (pm_lay_in (ci := 5) rfl) tyX5 tyX5_ok nmX5 hown hK hP hD hS 0 rfl rfl 4 (by decide) (hw 218 _ (by decide +kernel)) (fun _ h9 => h9) rfl (by decide +kernel) rfl rfl (Nat.le_of_ble_eq_true rfl) (show decode prog_7_method_1_code 26 = .ok (.putfield 25, 3) by decide +kernel) (fun H locs hP hD hS => ?_)
  have hP : va_P (dC, dI) vwCl [(h0, .inr (5, [.int (0), .int (0), .int (0), .int (0), .int (1), .int 0, .null, .null, .null, .null, .null, .null]))] H := hP
  have hD : va_D A [(h0, .inr (5, [.int (0), .int (0), .int (0), .int (0), .int (1), .int 0, .null, .null, .null, .null, .null, .null]))] := hD
  refine lv_aload_n hx hb (show decode prog_7_method_1_code 29 = .ok (.aload_n 0, 1) by decide +kernel) rfl (lv_at hl 0 rfl) ?_
  refine lv_iconst (v := 0) hx hb (show decode prog_7_method_1_code 30 = .ok (.iconst 0, 1) by decide +kernel) (by decide) ?_
  refine va_put (D := (dC, dI)) (ci := 5) (v := .int (0)) (ty := .int) (C := RX5) (T := TX5) (N := 12) hx hb hts (pm_lay_in (ci := 5) rfl) tyX5 tyX5_ok nmX5 hown hK hP hD hS 0 rfl rfl 5 (by decide) (hw 220 _ (by decide +kernel)) (fun _ h9 => h9) rfl (by decide +kernel) rfl rfl (Nat.le_of_ble_eq_true rfl) (show decode prog_7_method_1_code 31 = .ok (.putfield 28, 3) by decide +kernel) (fun H locs hP hD hS => ?_)
  have hP : va_P (dC, dI) vwCl [(h0, .inr (5, [.int (0), .int (0), .int (0), .int (0), .int (1), .int (0), .null, .null, .null, .null, .null, .null]))] H := hP
  have hD : va_D A [(h0, .inr (5, [.int (0), .int (0), .int (0), .int (0), .int (1), .int (0), .null, .null, .null, .null, .null, .null]))] := hD
  refine lv_aload_n hx hb (show decode prog_7_method_1_code 34 = .ok (.aload_n 0, 1) by decide +kernel) rfl (lv_at hl 0 rfl) ?_
  refine lv_bipush (v := 40) hx hb (show decode prog_7_method_1_code 35 = .ok (.bipush 40, 2) by decide +kernel) (by decide) ?_
  refine va_newa (atype := .int) hx hb (hw 132 _ (by decide +kernel)) rfl hK hP hD hS hA (a0 := (40, .inl (fun _ => 0))) (fun _ => rfl) (by decide) (by decide) (Nat.le_of_ble_eq_true rfl) (Nat.le_of_ble_eq_true rfl) (Nat.le_of_ble_eq_true rfl) (show decode prog_7_method_1_code 37 = .ok (.newarray .int, 2) by decide +kernel) (fun q1 c1 H hK hP hD hS => ?_)
  have hP : va_P (dC, dI) vwCl [(h0, .inr (5, [.int (0), .int (0), .int (0), .int (0), .int (1), .int (0), .null, .null, .null, .null, .null, .null])), (q1, .inl (c1, 40, .inl (fun _ => 0)))] H := hP
  have hD : va_D A [(h0, .inr (5, [.int (0), .int (0), .int (0), .int (0), .int (1), .int (0), .null, .null, .null, .null, .null, .null])), (q1, .inl (c1, 40, .inl (fun _ => 0)))] := hD
  have hK : va_K (dC, dI) vwCl [(c1, .int)] s := hK
  have hP : va_P (dC, dI) vwCl [(h0, .inr (5, [.int (0), .int (0), .int (0), .int (0), .int (1), .int (0), .null, .null, .null, .null, .null, .null])), (q1, .inl (c1, 40, .inl (fun _ => 0)))] H := hP
  have hD : va_D A [(h0, .inr (5, [.int (0), .int (0), .int (0), .int (0), .int (1), .int (0), .null, .null, .null, .null, .null, .null])), (q1, .inl (c1, 40, .inl (fun _ => 0)))] := hD
  refine va_putF (D := (dC, dI)) (ci := 5) (v := .ref q1) (ty := .array .int) (C := RX5) (T := TX5) (N := 12) hx hb hts (pm_lay_in (ci := 5) rfl) tyX5 tyX5_ok nmX5 hown hK hP hD hS 0 rfl rfl 6 (by decide) (hw 221 _ (by decide +kernel)) (fun _ h9 => h9) rfl hin rfl (by decide +kernel) rfl rfl (Nat.le_of_ble_eq_true rfl) (show decode prog_7_method_1_code 39 = .ok (.putfield 31, 3) by decide +kernel) (fun H locs hP hD hS => ?_)
  have hP : va_P (dC, dI) vwCl [(h0, .inr (5, [.int (0), .int (0), .int (0), .int (0), .int (1), .int (0), .ref q1, .null, .null, .null, .null, .null])), (q1, .inl (c1, 40, .inl (fun _ => 0)))] H := hP
  have hD : va_D A [(h0, .inr (5, [.int (0), .int (0), .int (0), .int (0), .int (1), .int (0), .ref q1, .null, .null, .null, .null, .null])), (q1, .inl (c1, 40, .inl (fun _ => 0)))] := hD
  refine lv_aload_n hx hb (show decode prog_7_method_1_code 42 = .ok (.aload_n 0, 1) by decide +kernel) rfl (lv_at hl 0 rfl) ?_
  refine lv_iconst (v := 5) hx hb (show decode prog_7_method_1_code 43 = .ok (.iconst 5, 1) by decide +kernel) (by decide) ?_
  refine va_newa (atype := .int) hx hb (hw 132 _ (by decide +kernel)) rfl hK hP hD hS hA (a0 := (5, .inl (fun _ => 0))) (fun _ => rfl) (by decide) (by decide) (Nat.le_of_ble_eq_true rfl) (Nat.le_of_ble_eq_true rfl) (Nat.le_of_ble_eq_true rfl) (show decode prog_7_method_1_code 44 = .ok (.newarray .int, 2) by decide +kernel) (fun q2 c2 H hK hP hD hS => ?_)
  have hP : va_P (dC, dI) vwCl [(h0, .inr (5, [.int (0), .int (0), .int (0), .int (0), .int (1), .int (0), .ref q1, .null, .null, .null, .null, .null])), (q1, .inl (c1, 40, .inl (fun _ => 0))), (q2, .inl (c2, 5, .inl (fun _ => 0)))] H := hP
  have hD : va_D A [(h0, .inr (5, [.int (0), .int (0), .int (0), .int (0), .int (1), .int (0), .ref q1, .null, .null, .null, .null, .null])), (q1, .inl (c1, 40, .inl (fun _ => 0))), (q2, .inl (c2, 5, .inl (fun _ => 0)))] := hD
  have hK : va_K (dC, dI) vwCl [(c1, .int), (c2, .int)] s := hK
  have e9 := pm_uq hK (i := 0) (j := 1) rfl rfl
  subst e9
  have hK := hK.sub (tys' := [(c1, .int)]) [0] rfl
  have hP : va_P (dC, dI) vwCl [(h0, .inr (5, [.int (0), .int (0), .int (0), .int (0), .int (1), .int (0), .ref q1, .null, .null, .null, .null, .null])), (q1, .inl (c1, 40, .inl (fun _ => 0))), (q2, .inl (c1, 5, .inl (fun _ => 0)))] H := hP
  have hD : va_D A [(h0, .inr (5, [.int (0), .int (0), .int (0), .int (0), .int (1), .int (0), .ref q1, .null, .null, .null, .null, .null])), (q1, .inl (c1, 40, .inl (fun _ => 0))), (q2, .inl (c1, 5, .inl (fun _ => 0)))] := hD
  refine va_putF (D := (dC, dI)) (ci := 5) (v := .ref q2) (ty := .array .int) (C := RX5) (T := TX5) (N := 12) hx hb hts (pm_lay_in (ci := 5) rfl) tyX5 tyX5_ok nmX5 hown hK hP hD hS 0 rfl rfl 7 (by decide) (hw 223 _ (by decide +kernel)) (fun _ h9 => h9) rfl hin rfl (by decide +kernel) rfl rfl (Nat.le_of_ble_eq_true rfl) (show decode prog_7_method_1_code 46 = .ok (.putfield 35, 3) by decide +kernel) (fun H locs hP hD hS => ?_)
  have hP : va_P (dC, dI) vwCl [(h0, .inr (5, [.int (0), .int (0), .int (0), .int (0), .int (1), .int (0), .ref q1, .ref q2, .null, .null, .null, .null])), (q1, .inl (c1, 40, .inl (fun _ => 0))), (q2, .inl (c1, 5, .inl (fun _ => 0)))] H := hP
  have hD : va_D A [(h0, .inr (5, [.int (0), .int (0), .int (0), .int (0), .int (1), .int (0), .ref q1, .ref q2, .null, .null, .null, .null])), (q1, .inl (c1, 40, .inl (fun _ => 0))), (q2, .inl (c1, 5, .inl (fun _ => 0)))] := hD
  refine lv_aload_n hx hb (show decode prog_7_method_1_code 49 = .ok (.aload_n 0, 1) by decide +kernel) rfl (lv_at hl 0 rfl) ?_
  refine lv_bipush (v := 8) hx hb (show decode prog_7_method_1_code 50 = .ok (.bipush 8, 2) by decide +kernel) (by decide) ?_
  refine va_newa (atype := .int) hx hb (hw 132 _ (by decide +kernel)) rfl hK hP hD hS hA (a0 := (8, .inl (fun _ => 0))) (fun _ => rfl) (by decide) (by decide) (Nat.le_of_ble_eq_true rfl) (Nat.le_of_ble_eq_true rfl) (Nat.le_of_ble_eq_true rfl) (show decode prog_7_method_1_code 52 = .ok (.newarray .int, 2) by decide +kernel) (fun q3 c3 H hK hP hD hS => ?_)
  have hP : va_P (dC, dI) vwCl [(h0, .inr (5, [.int (0), .int (0), .int (0), .int (0), .int (1), .int (0), .ref q1, .ref q2, .null, .null, .null, .null])), (q1, .inl (c1, 40, .inl (fun _ => 0))), (q2, .inl (c1, 5, .inl (fun _ => 0))), (q3, .inl (c3, 8, .inl (fun _ => 0)))] H := hP
  have hD : va_D A [(h0, .inr (5, [.int (0), .int (0), .int (0), .int (0), .int (1), .int (0), .ref q1, .ref q2, .null, .null, .null, .null])), (q1, .inl (c1, 40, .inl (fun _ => 0))), (q2, .inl (c1, 5, .inl (fun _ => 0))), (q3, .inl (c3, 8, .inl (fun _ => 0)))] := hD
  have hK : va_K (dC, dI) vwCl [(c1, .int), (c3, .int)] s := hK
  have e9 := pm_uq hK (i := 0) (j := 1) rfl rfl
  subst e9
  have hK := hK.sub (tys' := [(c1, .int)]) [0] rfl
  have hP : va_P (dC, dI) vwCl [(h0, .inr (5, [.int (0), .int (0), .int (0), .int (0), .int (1), .int (0), .ref q1, .ref q2, .null, .null, .null, .null])), (q1, .inl (c1, 40, .inl (fun _ => 0))), (q2, .inl (c1, 5, .inl (fun _ => 0))), (q3, .inl (c1, 8, .inl (fun _ => 0)))] H := hP
  have hD : va_D A [(h0, .inr (5, [.int (0), .int (0), .int (0), .int (0), .int (1), .int (0), .ref q1, .ref q2, .null, .null, .null, .null])), (q1, .inl (c1, 40, .inl (fun _ => 0))), (q2, .inl (c1, 5, .inl (fun _ => 0))), (q3, .inl (c1, 8, .inl (fun _ => 0)))] := hD
  refine va_putF (D := (dC, dI)) (ci := 5) (v := .ref q3) (ty := .array .int) (C := RX5) (T := TX5) (N := 12) hx hb hts (pm_lay_in (ci := 5) rfl) tyX5 tyX5_ok nmX5 hown hK hP hD hS 0 rfl rfl 8 (by decide) (hw 225 _ (by decide +kernel)) (fun _ h9 => h9) rfl hin rfl (by decide +kernel) rfl rfl (Nat.le_of_ble_eq_true rfl) (show decode prog_7_method_1_code 54 = .ok (.putfield 38, 3) by decide +kernel) (fun H locs hP hD hS => ?_)
  have hP : va_P (dC, dI) vwCl [(h0, .inr (5, [.int (0), .int (0), .int (0), .int (0), .int (1), .int (0), .ref q1, .ref q2, .ref q3, .null, .null, .null])), (q1, .inl (c1, 40, .inl (fun _ => 0))), (q2, .inl (c1, 5, .inl (fun _ => 0))), (q3, .inl (c1, 8, .inl (fun _ => 0)))] H := hP
  have hD : va_D A [(h0, .inr (5, [.int (0), .int (0), .int (0), .int (0), .int (1), .int (0), .ref q1, .ref q2, .ref q3, .null, .null, .null])), (q1, .inl (c1, 40, .inl (fun _ => 0))), (q2, .inl (c1, 5, .inl (fun _ => 0))), (q3, .inl (c1, 8, .inl (fun _ => 0)))] := hD
  refine lv_aload_n hx hb (show decode prog_7_method_1_code 57 = .ok (.aload_n 0, 1) by decide +kernel) rfl (lv_at hl 0 rfl) ?_
  refine lv_bipush (v := 8) hx hb (show decode prog_7_method_1_code 58 = .ok (.bipush 8, 2) by decide +kernel) (by decide) ?_
  refine va_newa (atype := .int) hx hb (hw 132 _ (by decide +kernel)) rfl hK hP hD hS hA (a0 := (8, .inl (fun _ => 0))) (fun _ => rfl) (by decide) (by decide) (Nat.le_of_ble_eq_true rfl) (Nat.le_of_ble_eq_true rfl) (Nat.le_of_ble_eq_true rfl) (show decode prog_7_method_1_code 60 = .ok (.newarray .int, 2) by decide +kernel) (fun q4 c4 H hK hP hD hS => ?_)
  have hP : va_P (dC, dI) vwCl [(h0, .inr (5, [.int (0), .int (0), .int (0), .int (0), .int (1), .int (0), .ref q1, .ref q2, .ref q3, .null, .null, .null])), (q1, .inl (c1, 40, .inl (fun _ => 0))), (q2, .inl (c1, 5, .inl (fun _ => 0))), (q3, .inl (c1, 8, .inl (fun _ => 0))), (q4, .inl (c4, 8, .inl (fun _ => 0)))] H := hP
  have hD : va_D A [(h0, .inr (5, [.int (0), .int (0), .int (0), .int (0), .int (1), .int (0), .ref q1, .ref q2, .ref q3, .null, .null, .null])), (q1, .inl (c1, 40, .inl (fun _ => 0))), (q2, .inl (c1, 5, .inl (fun _ => 0))), (q3, .inl (c1, 8, .inl (fun _ => 0))), (q4, .inl (c4, 8, .inl (fun _ => 0)))] := hD
  have hK : va_K (dC, dI) vwCl [(c1, .int), (c4, .int)] s := hK
  have e9 := pm_uq hK (i := 0) (j := 1) rfl rfl
  subst e9
  have hK := hK.sub (tys' := [(c1, .int)]) [0] rfl
  have hP : va_P (dC, dI) vwCl [(h0, .inr (5, [.int (0), .int (0), .int (0), .int (0), .int (1), .int (0), .ref q1, .ref q2, .ref q3, .null, .null, .null])), (q1, .inl (c1, 40, .inl (fun _ => 0))), (q2, .inl (c1, 5, .inl (fun _ => 0))), (q3, .inl (c1, 8, .inl (fun _ => 0))), (q4, .inl (c1, 8, .inl (fun _ => 0)))] H := hP
  have hD : va_D A [(h0, .inr (5, [.int (0), .int (0), .int (0), .int (0), .int (1), .int (0), .ref q1, .ref q2, .ref q3, .null, .null, .null])), (q1, .inl (c1, 40, .inl (fun _ => 0))), (q2, .inl (c1, 5, .inl (fun _ => 0))), (q3, .inl (c1, 8, .inl (fun _ => 0))), (q4, .inl (c1, 8, .inl (fun _ => 0)))] := hD
  refine va_putF (D := (dC, dI)) (ci := 5) (v := .ref q4) (ty := .array .int) (C := RX5) (T := TX5) (N := 12) hx hb hts (pm_lay_in (ci := 5) rfl) tyX5 tyX5_ok nmX5 hown hK hP hD hS 0 rfl rfl 9 (by decide) (hw 227 _ (by decide +kernel)) (fun _ h9 => h9) rfl hin rfl (by decide +kernel) rfl rfl (Nat.le_of_ble_eq_true rfl) (show decode prog_7_method_1_code 62 = .ok (.putfield 41, 3) by decide +kernel) (fun H locs hP hD hS => ?_)
  have hP : va_P (dC, dI) vwCl [(h0, .inr (5, [.int (0), .int (0), .int (0), .int (0), .int (1), .int (0), .ref q1, .ref q2, .ref q3, .ref q4, .null, .null])), (q1, .inl (c1, 40, .inl (fun _ => 0))), (q2, .inl (c1, 5, .inl (fun _ => 0))), (q3, .inl (c1, 8, .inl (fun _ => 0))), (q4, .inl (c1, 8, .inl (fun _ => 0)))] H := hP
  have hD : va_D A [(h0, .inr (5, [.int (0), .int (0), .int (0), .int (0), .int (1), .int (0), .ref q1, .ref q2, .ref q3, .ref q4, .null, .null])), (q1, .inl (c1, 40, .inl (fun _ => 0))), (q2, .inl (c1, 5, .inl (fun _ => 0))), (q3, .inl (c1, 8, .inl (fun _ => 0))), (q4, .inl (c1, 8, .inl (fun _ => 0)))] := hD
  refine lv_aload_n hx hb (show decode prog_7_method_1_code 65 = .ok (.aload_n 0, 1) by decide +kernel) rfl (lv_at hl 0 rfl) ?_
  refine lv_bipush (v := 10) hx hb (show decode prog_7_method_1_code 66 = .ok (.bipush 10, 2) by decide +kernel) (by decide) ?_
  refine va_newa (atype := .int) hx hb (hw 132 _ (by decide +kernel)) rfl hK hP hD hS hA (a0 := (10, .inl (fun _ => 0))) (fun _ => rfl) (by decide) (by decide) (Nat.le_of_ble_eq_true rfl) (Nat.le_of_ble_eq_true rfl) (Nat.le_of_ble_eq_true rfl) (show decode prog_7_method_1_code 68 = .ok (.newarray .int, 2) by decide +kernel) (fun q5 c5 H hK hP hD hS => ?_)
  have hP : va_P (dC, dI) vwCl [(h0, .inr (5, [.int (0), .int (0), .int (0), .int (0), .int (1), .int (0), .ref q1, .ref q2, .ref q3, .ref q4, .null, .null])), (q1, .inl (c1, 40, .inl (fun _ => 0))), (q2, .inl (c1, 5, .inl (fun _ => 0))), (q3, .inl (c1, 8, .inl (fun _ => 0))), (q4, .inl (c1, 8, .inl (fun _ => 0))), (q5, .inl (c5, 10, .inl (fun _ => 0)))] H := hP
  have hD : va_D A [(h0, .inr (5, [.int (0), .int (0), .int (0), .int (0), .int (1), .int (0), .ref q1, .ref q2, .ref q3, .ref q4, .null, .null])), (q1, .inl (c1, 40, .inl (fun _ => 0))), (q2, .inl (c1, 5, .inl (fun _ => 0))), (q3, .inl (c1, 8, .inl (fun _ => 0))), (q4, .inl (c1, 8, .inl (fun _ => 0))), (q5, .inl (c5, 10, .inl (fun _ => 0)))] := hD
  have hK : va_K (dC, dI) vwCl [(c1, .int), (c5, .int)] s := hK
  have e9 := pm_uq hK (i := 0) (j := 1) rfl rfl
  subst e9
  have hK := hK.sub (tys' := [(c1, .int)]) [0] rfl
  have hP : va_P (dC, dI) vwCl [(h0, .inr (5, [.int (0), .int (0), .int (0), .int (0), .int (1), .int (0), .ref q1, .ref q2, .ref q3, .ref q4, .null, .null])), (q1, .inl (c1, 40, .inl (fun _ => 0))), (q2, .inl (c1, 5, .inl (fun _ => 0))), (q3, .inl (c1, 8, .inl (fun _ => 0))), (q4, .inl (c1, 8, .inl (fun _ => 0))), (q5, .inl (c1, 10, .inl (fun _ => 0)))] H := hP
  have hD : va_D A [(h0, .inr (5, [.int (0), .int (0), .int (0), .int (0), .int (1), .int (0), .ref q1, .ref q2, .ref q3, .ref q4, .null, .null])), (q1, .inl (c1, 40, .inl (fun _ => 0))), (q2, .inl (c1, 5, .inl (fun _ => 0))), (q3, .inl (c1, 8, .inl (fun _ => 0))), (q4, .inl (c1, 8, .inl (fun _ => 0))), (q5, .inl (c1, 10, .inl (fun _ => 0)))] := hD
  refine va_putF (D := (dC, dI)) (ci := 5) (v := .ref q5) (ty := .array .int) (C := RX5) (T := TX5) (N := 12) hx hb hts (pm_lay_in (ci := 5) rfl) tyX5 tyX5_ok nmX5 hown hK hP hD hS 0 rfl rfl 10 (by decide) (hw 229 _ (by decide +kernel)) (fun _ h9 => h9) rfl hin rfl (by decide +kernel) rfl rfl (Nat.le_of_ble_eq_true rfl) (show decode prog_7_method_1_code 70 = .ok (.putfield 44, 3) by decide +kernel) (fun H locs hP hD hS => ?_)
  have hP : va_P (dC, dI) vwCl [(h0, .inr (5, [.int (0), .int (0), .int (0), .int (0), .int (1), .int (0), .ref q1, .ref q2, .ref q3, .ref q4, .ref q5, .null])), (q1, .inl (c1, 40, .inl (fun _ => 0))), (q2, .inl (c1, 5, .inl (fun _ => 0))), (q3, .inl (c1, 8, .inl (fun _ => 0))), (q4, .inl (c1, 8, .inl (fun _ => 0))), (q5, .inl (c1, 10, .inl (fun _ => 0)))] H := hP
  have hD : va_D A [(h0, .inr (5, [.int (0), .int (0), .int (0), .int (0), .int (1), .int (0), .ref q1, .ref q2, .ref q3, .ref q4, .ref q5, .null])), (q1, .inl (c1, 40, .inl (fun _ => 0))), (q2, .inl (c1, 5, .inl (fun _ => 0))), (q3, .inl (c1, 8, .inl (fun _ => 0))), (q4, .inl (c1, 8, .inl (fun _ => 0))), (q5, .inl (c1, 10, .inl (fun _ => 0)))] := hD
  refine lv_aload_n hx hb (show decode prog_7_method_1_code 73 = .ok (.aload_n 0, 1) by decide +kernel) rfl (lv_at hl 0 rfl) ?_
  refine lv_bipush (v := 8) hx hb (show decode prog_7_method_1_code 74 = .ok (.bipush 8, 2) by decide +kernel) (by decide) ?_
  refine va_newa (atype := .int) hx hb (hw 132 _ (by decide +kernel)) rfl hK hP hD hS hA (a0 := (8, .inl (fun _ => 0))) (fun _ => rfl) (by decide) (by decide) (Nat.le_of_ble_eq_true rfl) (Nat.le_of_ble_eq_true rfl) (Nat.le_of_ble_eq_true rfl) (show decode prog_7_method_1_code 76 = .ok (.newarray .int, 2) by decide +kernel) (fun q6 c6 H hK hP hD hS => ?_)
  have hP : va_P (dC, dI) vwCl [(h0, .inr (5, [.int (0), .int (0), .int (0), .int (0), .int (1), .int (0), .ref q1, .ref q2, .ref q3, .ref q4, .ref q5, .null])), (q1, .inl (c1, 40, .inl (fun _ => 0))), (q2, .inl (c1, 5, .inl (fun _ => 0))), (q3, .inl (c1, 8, .inl (fun _ => 0))), (q4, .inl (c1, 8, .inl (fun _ => 0))), (q5, .inl (c1, 10, .inl (fun _ => 0))), (q6, .inl (c6, 8, .inl (fun _ => 0)))] H := hP
  have hD : va_D A [(h0, .inr (5, [.int (0), .int (0), .int (0), .int (0), .int (1), .int (0), .ref q1, .ref q2, .ref q3, .ref q4, .ref q5, .null])), (q1, .inl (c1, 40, .inl (fun _ => 0))), (q2, .inl (c1, 5, .inl (fun _ => 0))), (q3, .inl (c1, 8, .inl (fun _ => 0))), (q4, .inl (c1, 8, .inl (fun _ => 0))), (q5, .inl (c1, 10, .inl (fun _ => 0))), (q6, .inl (c6, 8, .inl (fun _ => 0)))] := hD
  have hK : va_K (dC, dI) vwCl [(c1, .int), (c6, .int)] s := hK
  have e9 := pm_uq hK (i := 0) (j := 1) rfl rfl
  subst e9
  have hK := hK.sub (tys' := [(c1, .int)]) [0] rfl
  have hP : va_P (dC, dI) vwCl [(h0, .inr (5, [.int (0), .int (0), .int (0), .int (0), .int (1), .int (0), .ref q1, .ref q2, .ref q3, .ref q4, .ref q5, .null])), (q1, .inl (c1, 40, .inl (fun _ => 0))), (q2, .inl (c1, 5, .inl (fun _ => 0))), (q3, .inl (c1, 8, .inl (fun _ => 0))), (q4, .inl (c1, 8, .inl (fun _ => 0))), (q5, .inl (c1, 10, .inl (fun _ => 0))), (q6, .inl (c1, 8, .inl (fun _ => 0)))] H := hP
  have hD : va_D A [(h0, .inr (5, [.int (0), .int (0), .int (0), .int (0), .int (1), .int (0), .ref q1, .ref q2, .ref q3, .ref q4, .ref q5, .null])), (q1, .inl (c1, 40, .inl (fun _ => 0))), (q2, .inl (c1, 5, .inl (fun _ => 0))), (q3, .inl (c1, 8, .inl (fun _ => 0))), (q4, .inl (c1, 8, .inl (fun _ => 0))), (q5, .inl (c1, 10, .inl (fun _ => 0))), (q6, .inl (c1, 8, .inl (fun _ => 0)))] := hD
  refine va_putF (D := (dC, dI)) (ci := 5) (v := .ref q6) (ty := .array .int) (C := RX5) (T := TX5) (N := 12) hx hb hts (pm_lay_in (ci := 5) rfl) tyX5 tyX5_ok nmX5 hown hK hP hD hS 0 rfl rfl 11 (by decide) (hw 231 _ (by decide +kernel)) (fun _ h9 => h9) rfl hin rfl (by decide +kernel) rfl rfl (Nat.le_of_ble_eq_true rfl) (show decode prog_7_method_1_code 78 = .ok (.putfield 47, 3) by decide +kernel) (fun H locs hP hD hS => ?_)
  have hP : va_P (dC, dI) vwCl [(h0, .inr (5, [.int (0), .int (0), .int (0), .int (0), .int (1), .int (0), .ref q1, .ref q2, .ref q3, .ref q4, .ref q5, .ref q6])), (q1, .inl (c1, 40, .inl (fun _ => 0))), (q2, .inl (c1, 5, .inl (fun _ => 0))), (q3, .inl (c1, 8, .inl (fun _ => 0))), (q4, .inl (c1, 8, .inl (fun _ => 0))), (q5, .inl (c1, 10, .inl (fun _ => 0))), (q6, .inl (c1, 8, .inl (fun _ => 0)))] H := hP
  have hD : va_D A [(h0, .inr (5, [.int (0), .int (0), .int (0), .int (0), .int (1), .int (0), .ref q1, .ref q2, .ref q3, .ref q4, .ref q5, .ref q6])), (q1, .inl (c1, 40, .inl (fun _ => 0))), (q2, .inl (c1, 5, .inl (fun _ => 0))), (q3, .inl (c1, 8, .inl (fun _ => 0))), (q4, .inl (c1, 8, .inl (fun _ => 0))), (q5, .inl (c1, 10, .inl (fun _ => 0))), (q6, .inl (c1, 8, .inl (fun _ => 0)))] := hD
  exact W.vret hx hb hr (fun t ht hW => ⟨⟨(), rfl, trivial, q1, q2, q3, q4, q5, q6, c1, by rw [ht]; exact hP, va_K.moved hW.alike hK, hD⟩, hS.F ht⟩) hS.2.2 (show decode prog_7_method_1_code 81 = .ok (.return_, 1) by decide +kernel)
