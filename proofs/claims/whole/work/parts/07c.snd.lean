theorem pm_sw_tab {x : Int32} {pc d : Nat} {f : Int → Option Int} : ∀ ks : List Nat, pm_swC pc f ks = true → (∃ k t : Nat, pm_sw x d ks = t ∧ x = Int32.ofNat k ∧ k < 1000 ∧ f (k : Int) = some ((t : Int) - (pc : Int))) ∨ (pm_sw x d ks = d ∧ ∀ k ∈ pm_keys ks, x ≠ Int32.ofNat k)
  | [], _ => Or.inr ⟨rfl, fun k h => by cases h⟩
  | [_], _ => Or.inr ⟨rfl, fun k h => by cases h⟩
  | k :: t :: r, h => by
    unfold pm_swC at h
    simp only [Bool.and_eq_true, decide_eq_true_eq] at h
    by_cases hx : x = Int32.ofNat k
    · exact Or.inl ⟨k, t, by simp [pm_sw, hx], hx, h.1.2, h.1.1⟩
    · rcases pm_sw_tab r h.2 with q | q
      · obtain ⟨k2, t2, q1, q2⟩ := q
        exact Or.inl ⟨k2, t2, by simp only [pm_sw, if_neg hx]; exact q1, q2⟩
      · refine Or.inr ⟨by simp only [pm_sw, if_neg hx]; exact q.1, fun k2 hk2 => ?_⟩
        unfold pm_keys at hk2
        rcases List.mem_cons.mp hk2 with rfl | hk2
        · exact hx
        · exact q.2 k2 hk2
theorem pm_sw_look {x : Int32} {pc d : Nat} {dd : Int} (hd : (pc : Int) + dd = (d : Int)) : ∀ (l : List (Int × Int)) (ks : List Nat), l.map (fun q => (q.1, (pc : Int) + q.2)) = (pm_prs ks).map (fun q => ((q.1 : Int), (q.2 : Int))) → (∀ k ∈ ks, k < 1000) → (pc : Int) + Op.lookupswitch.offset l dd x.toInt = ((pm_sw x d ks : Nat) : Int)
  | [], [], _, _ => hd
  | [], [_], _, _ => hd
  | [], _ :: _ :: _, h, _ => by simp [pm_prs] at h
  | _ :: _, [], h, _ => by simp [pm_prs] at h
  | _ :: _, [_], h, _ => by simp [pm_prs] at h
  | (a, o) :: l, k :: t :: r, h, hk => by
    simp only [pm_prs, List.map_cons, List.cons.injEq, Prod.mk.injEq] at h
    obtain ⟨⟨h1, h2⟩, h3⟩ := h
    have hk0 : k < 1000 := hk k List.mem_cons_self
    rw [Op.lookupswitch.offset_cons]
    by_cases hx : x = Int32.ofNat k
    · have : a = x.toInt := by rw [hx, h1]; exact (toInt_of rfl (by omega)).symm
      rw [if_pos this]
      simp only [pm_sw, if_pos hx]
      exact h2
    · have : ¬ a = x.toInt := fun q => hx (Int32.toInt_inj.mp (by rw [← q, h1]; exact (toInt_of rfl (by omega)).symm))
      rw [if_neg this]
      simp only [pm_sw, if_neg hx]
      exact pm_sw_look hd l r h3 (fun k2 hk2 => hk k2 (List.mem_cons_of_mem _ (List.mem_cons_of_mem _ hk2)))
theorem pm_nfw : nativeFrameWords "java/lang/System" "arraycopy" 5 ≤ 20 := by decide +kernel
section PMQ
variable {p : Program} {l : Launch} {e : Env} {R : Room} {s : State} {m : MethodId} {args : Array Value} {below : List Frame} {meth : Method} {c : Code} {cells slots : Nat} {Q : State → Prop}
variable {own : String} {cc : ByteArray} {nL d : Nat} {X : pm_X} {D : va_G} {ad : Nat → Nat} {cA : Nat → ClassId} {A : Nat → Prop}
theorem pm_ok_copyI {σ σ' : pm_St} {i : Nat} (C0 : pm_Cx p R s m args c cells slots own cc nL d X D ad cA A) (hd : decode cc σ.1 = .ok (.invokestatic i, 3))
    (w1 : (Cond.methodLink own i arraycopyName).before args s = true) (w2 : (Cond.native arraycopyName).before args s = true) (w3 : (Cond.static arraycopyName).before args s = true) (w4 : (Cond.initialized "java/lang/System").before args s = true)
    (h : pm_copyI σ = some σ') (k : pm_Ok p l e R s m args below meth c cells slots Q nL D ad cA A σ') : pm_Ok p l e R s m args below meth c cells slots Q nL D ad cA A σ := by
  intro H locs ls hP hD hS hl
  obtain ⟨hx, hb, hml, hown, -, -, hK, hZ, -, hR, hX⟩ := C0
  unfold pm_copyI at h
  split at h
  · rename_i pc al n dp b sp a r M
    split at h
    · rename_i n0 n1 hsh0 hsh1
      split at h
      · rename_i hin
        obtain ⟨g1, g2, g3, g4, g5, g6⟩ := hin
        cases h
        have hset : (pm_W ad cA M).set b (ad b, .inl (cA 0, n1, .inl (va_cpy (M.1 a) (M.1 b) sp.toNatClampNeg dp.toNatClampNeg n.toNatClampNeg))) = pm_W ad cA (pm_cI M a b sp.toNatClampNeg dp.toNatClampNeg n.toNatClampNeg) :=
          pm_W_set hsh1 (by simp only [pm_ent, pm_cn, pm_cI]; simp) (fun j hj => ⟨by funext q; simp [pm_cI, hj], rfl⟩)
        have hnf := pm_nfw
        refine va_copyi hx hb (hml.trans hl.1.symm) hown w1 w2 w3 w4 hK hP hD hS a b 0 0 (pm_W_get hsh0) (pm_W_get hsh1) rfl rfl rfl g1 g2 g3 g4 g5 (fun _ _ => rfl) (by omega) (by rw [pm_cv_sum]; omega) hd (fun H1 locs1 q1 q2 q3 => ?_)
        exact k H1 locs1 ls (by rw [← hset]; exact q1) (by rw [← hset]; exact q2) q3 hl
      · cases h
    · cases h
  · cases h
theorem pm_ok_copyL {σ σ' : pm_St} {i : Nat} (C0 : pm_Cx p R s m args c cells slots own cc nL d X D ad cA A) (hd : decode cc σ.1 = .ok (.invokestatic i, 3))
    (w1 : (Cond.methodLink own i arraycopyName).before args s = true) (w2 : (Cond.native arraycopyName).before args s = true) (w3 : (Cond.static arraycopyName).before args s = true) (w4 : (Cond.initialized "java/lang/System").before args s = true)
    (h : pm_copyL σ = some σ') (k : pm_Ok p l e R s m args below meth c cells slots Q nL D ad cA A σ') : pm_Ok p l e R s m args below meth c cells slots Q nL D ad cA A σ := by
  intro H locs ls hP hD hS hl
  obtain ⟨hx, hb, hml, hown, -, -, hK, hZ, -, hR, hX⟩ := C0
  unfold pm_copyL at h
  split at h
  · rename_i pc al n dp b sp a r M
    split at h
    · rename_i n0 n1 hsh0 hsh1
      split at h
      · rename_i hin
        obtain ⟨g1, g2, g3, g4, g5, g6⟩ := hin
        cases h
        have hset : (pm_W ad cA M).set b (ad b, .inl (cA 2, n1, .inr (.inl (va_cpy (M.2 a) (M.2 b) sp.toNatClampNeg dp.toNatClampNeg n.toNatClampNeg)))) = pm_W ad cA (pm_cL M a b sp.toNatClampNeg dp.toNatClampNeg n.toNatClampNeg) :=
          pm_W_set hsh1 (by simp only [pm_ent, pm_cn, pm_cL]; simp) (fun j hj => ⟨rfl, by funext q; simp [pm_cL, hj]⟩)
        have hnf := pm_nfw
        refine va_copyl hx hb (hml.trans hl.1.symm) hown w1 w2 w3 w4 hK hP hD hS a b 2 2 (pm_W_get hsh0) (pm_W_get hsh1) rfl rfl rfl g1 g2 g3 g4 g5 (fun _ _ => rfl) (by omega) (by rw [pm_cv_sum]; omega) hd (fun H1 locs1 q1 q2 q3 => ?_)
        exact k H1 locs1 ls (by rw [← hset]; exact q1) (by rw [← hset]; exact q2) q3 hl
      · cases h
    · cases h
  · cases h
theorem pm_ok_abs {σ σ' : pm_St} {i : Nat} (C0 : pm_Cx p R s m args c cells slots own cc nL d X D ad cA A) (hd : decode cc σ.1 = .ok (.invokestatic i, 3))
    (w1 : (Cond.methodLink own i Lib.MathLoose.abs_long.x).before args s = true) (w2 : (Cond.static Lib.MathLoose.abs_long.x).before args s = true) (w3 : (Cond.initialized "java/lang/Math").before args s = true) (w4 : (Cond.code Lib.MathLoose.abs_long.x Lib.MathLoose.abs_long.code 2 (some .long)).before args s = true)
    (h : pm_abs σ = some σ') (k : pm_Ok p l e R s m args below meth c cells slots Q nL D ad cA A σ') : pm_Ok p l e R s m args below meth c cells slots Q nL D ad cA A σ := by
  intro H locs ls hP hD hS hl
  obtain ⟨hx, hb, hml, hown, -, -, hK, hZ, -, hR, hX⟩ := C0
  unfold pm_abs at h
  split at h
  · split at h
    · rename_i hsum
      cases h
      exact va_mabs_long hx hb (hml.trans hl.1.symm) hown w1 w2 w3 w4 (by omega) (by rw [pm_cv_sum]; omega) hR.2.2.1 hR.2.2.2 hd (k H locs ls hP hD hS hl)
    · cases h
  · cases h
theorem pm_ok_max {σ σ' : pm_St} {i : Nat} (C0 : pm_Cx p R s m args c cells slots own cc nL d X D ad cA A) (hd : decode cc σ.1 = .ok (.invokestatic i, 3))
    (w1 : (Cond.methodLink own i Lib.MathLoose.max_long.x).before args s = true) (w2 : (Cond.static Lib.MathLoose.max_long.x).before args s = true) (w3 : (Cond.initialized "java/lang/Math").before args s = true) (w4 : (Cond.code Lib.MathLoose.max_long.x Lib.MathLoose.max_long.code 4 (some .long)).before args s = true)
    (h : pm_max σ = some σ') (k : pm_Ok p l e R s m args below meth c cells slots Q nL D ad cA A σ') : pm_Ok p l e R s m args below meth c cells slots Q nL D ad cA A σ := by
  intro H locs ls hP hD hS hl
  obtain ⟨hx, hb, hml, hown, -, -, hK, hZ, -, hR, hX⟩ := C0
  unfold pm_max at h
  split at h
  · split at h
    · rename_i hsum
      cases h
      exact va_mmax_long hx hb (hml.trans hl.1.symm) hown w1 w2 w3 w4 (by omega) (by rw [pm_cv_sum]; omega) hR.2.2.1 hR.2.2.2 hd (k H locs ls hP hD hS hl)
    · cases h
  · cases h
set_option maxHeartbeats 4000000 in
theorem pm_ex_ok {e0 : pm_E} {σ σ' : pm_St} (C0 : pm_Cx p R s m args c cells slots own cc nL d X D ad cA A) (hch : pm_chE own nL cc σ.1 e0 = true) (h : pm_ex X e0 σ = some σ')
    (k : pm_Ok p l e R s m args below meth c cells slots Q nL D ad cA A σ') : pm_Ok p l e R s m args below meth c cells slots Q nL D ad cA A σ := by
  obtain ⟨hx, hb, hml, hown, hts, hN, hK, hZ, hA, hR, hX⟩ := id C0
  obtain ⟨ins, n, aux, v⟩ := e0
  unfold pm_chE at hch
  rw [Bool.and_eq_true, decide_eq_true_eq] at hch
  obtain ⟨hd, hch⟩ := hch
  dsimp only at hd hch
  unfold pm_ex at h
  cases ins with
  | iconst i =>
    simp only [Bool.and_eq_true, beq_iff_eq, decide_eq_true_eq] at hch
    obtain ⟨rfl, rfl⟩ := hch
    exact pm_ok_push rfl (fun H locs ls rest kk => lv_iconst hx hb hd rfl kk) h k
  | bipush i =>
    simp only [Bool.and_eq_true, beq_iff_eq, decide_eq_true_eq] at hch
    obtain ⟨rfl, rfl⟩ := hch
    exact pm_ok_push rfl (fun H locs ls rest kk => lv_bipush hx hb hd rfl kk) h k
  | sipush i =>
    simp only [Bool.and_eq_true, beq_iff_eq, decide_eq_true_eq] at hch
    obtain ⟨rfl, rfl⟩ := hch
    exact pm_ok_push rfl (fun H locs ls rest kk => lv_sipush hx hb hd rfl kk) h k
  | lconst i =>
    simp only [Bool.and_eq_true, beq_iff_eq, decide_eq_true_eq] at hch
    obtain ⟨rfl, rfl⟩ := hch
    exact pm_ok_push rfl (fun H locs ls rest kk => lv_lconst hx hb hd rfl kk) h k
  | ldc i =>
    simp only [Bool.and_eq_true, beq_iff_eq] at hch
    obtain ⟨rfl, hw⟩ := hch
    cases v <;> simp only at hw <;> try (cases hw; done)
    exact pm_ok_push rfl (fun H locs ls rest kk => lv_ldc hx hb hown (pm_w_word hts hw) hd kk) h k
  | ldc_w i =>
    simp only [Bool.and_eq_true, beq_iff_eq] at hch
    obtain ⟨rfl, hw⟩ := hch
    cases v <;> simp only at hw <;> try (cases hw; done)
    exact pm_ok_push rfl (fun H locs ls rest kk => lv_ldcw hx hb hown (pm_w_word hts hw) hd kk) h k
  | ldc2_w i =>
    simp only [Bool.and_eq_true, beq_iff_eq] at hch
    obtain ⟨rfl, hw⟩ := hch
    cases v <;> simp only at hw <;> try (cases hw; done)
    exact pm_ok_push rfl (fun H locs ls rest kk => lv_ldc2 hx hb hown (pm_w_word hts hw) hd kk) h k
  | iload_n i => (have hn : n = 1 := by simpa using hch); subst hn; exact pm_ok_ldI (fun H locs ls x rest hl kk => lv_iload_n hx hb hd rfl hl kk) h k
  | iload i => (have hn : n = 2 := by simpa using hch); subst hn; exact pm_ok_ldI (fun H locs ls x rest hl kk => lv_iload hx hb hd hl kk) h k
  | lload_n i => (have hn : n = 1 := by simpa using hch); subst hn; exact pm_ok_ldL (fun H locs ls x rest hl kk => lv_lload_n hx hb hd rfl hl kk) h k
  | lload i => (have hn : n = 2 := by simpa using hch); subst hn; exact pm_ok_ldL (fun H locs ls x rest hl kk => lv_lload hx hb hd hl kk) h k
  | aload_n i => (have hn : n = 1 := by simpa using hch); subst hn; exact pm_ok_ldA (fun H locs ls x rest hl kk => lv_aload_n hx hb hd rfl hl kk) h k
  | aload i => (have hn : n = 2 := by simpa using hch); subst hn; exact pm_ok_ldA (fun H locs ls x rest hl kk => lv_aload hx hb hd hl kk) h k
  | istore_n i =>
    simp only [Bool.and_eq_true, beq_iff_eq, decide_eq_true_eq] at hch
    obtain ⟨rfl, hi⟩ := hch
    exact pm_ok_soI (fun H locs ls x rest lv hl kk => lv_istore_n hx hb hd rfl hl hi rfl kk) h k
  | istore i =>
    simp only [Bool.and_eq_true, beq_iff_eq, decide_eq_true_eq] at hch
    obtain ⟨rfl, hi⟩ := hch
    exact pm_ok_soI (fun H locs ls x rest lv hl kk => lv_istore hx hb hd hl hi rfl kk) h k
  | lstore_n i =>
    simp only [Bool.and_eq_true, beq_iff_eq, decide_eq_true_eq] at hch
    obtain ⟨rfl, hi⟩ := hch
    exact pm_ok_soL (fun H locs ls x rest lv hl kk => lv_lstore_n hx hb hd rfl hl hi rfl kk) h k
  | lstore i =>
    simp only [Bool.and_eq_true, beq_iff_eq, decide_eq_true_eq] at hch
    obtain ⟨rfl, hi⟩ := hch
    exact pm_ok_soL (fun H locs ls x rest lv hl kk => lv_lstore hx hb hd hl hi rfl kk) h k
  | astore_n i =>
    simp only [Bool.and_eq_true, beq_iff_eq, decide_eq_true_eq] at hch
    obtain ⟨rfl, hi⟩ := hch
    exact pm_ok_soA (fun H locs ls x rest lv hl kk => lv_astore_n hx hb hd rfl hl hi rfl kk) h k
  | astore i =>
    simp only [Bool.and_eq_true, beq_iff_eq, decide_eq_true_eq] at hch
    obtain ⟨rfl, hi⟩ := hch
    exact pm_ok_soA (fun H locs ls x rest lv hl kk => lv_astore hx hb hd hl hi rfl kk) h k
  | iinc i z =>
    simp only [Bool.and_eq_true, beq_iff_eq, decide_eq_true_eq] at hch
    obtain ⟨⟨rfl, rfl⟩, hi⟩ := hch
    intro H locs ls hP hD hS hl
    unfold pm_iincr at h
    obtain ⟨pc, al, st, M⟩ := σ
    dsimp only at h
    split at h
    · rename_i d0 x0 hd0 hx0
      cases hd0
      cases h
      have hin := pm_asc_in (ad := ad) hx0
      obtain ⟨q, hq⟩ := List.getElem?_of_mem hin
      exact lv_iinc hx hb hd (pm_hl_has hl) hq rfl hi rfl (fun ls' h' => k H locs ls' hP hD hS (pm_hl_st1 (v := .int _) h'))
    · cases h
  | iadd => (have hn : n = 1 := by simpa using hch); subst hn; exact pm_ok_bI (fun H locs ls x y rest kk => lv_iadd hx hb hd kk) h k
  | isub => (have hn : n = 1 := by simpa using hch); subst hn; exact pm_ok_bI (fun H locs ls x y rest kk => lv_isub hx hb hd kk) h k
  | imul => (have hn : n = 1 := by simpa using hch); subst hn; exact pm_ok_bI (fun H locs ls x y rest kk => lv_imul hx hb hd kk) h k
  | iand => (have hn : n = 1 := by simpa using hch); subst hn; exact pm_ok_bI (fun H locs ls x y rest kk => lv_iand hx hb hd kk) h k
  | ior => (have hn : n = 1 := by simpa using hch); subst hn; exact pm_ok_bI (fun H locs ls x y rest kk => lv_ior hx hb hd kk) h k
  | ixor => (have hn : n = 1 := by simpa using hch); subst hn; exact pm_ok_bI (fun H locs ls x y rest kk => lv_ixor hx hb hd kk) h k
  | ishl => (have hn : n = 1 := by simpa using hch); subst hn; exact pm_ok_bI (fun H locs ls x y rest kk => lv_ishl hx hb hd kk) h k
  | ishr => (have hn : n = 1 := by simpa using hch); subst hn; exact pm_ok_bI (fun H locs ls x y rest kk => lv_ishr hx hb hd kk) h k
  | iushr => (have hn : n = 1 := by simpa using hch); subst hn; exact pm_ok_bI (fun H locs ls x y rest kk => lv_iushr hx hb hd rfl kk) h k
  | idiv =>
    (have hn : n = 1 := by simpa using hch); subst hn
    intro H locs ls hP hD hS hl
    dsimp only at h
    unfold pm_idiv at h
    split at h
    · split at h
      · rename_i hne
        cases h
        exact lv_idiv hx hb hd hne (k H locs ls hP hD hS hl)
      · cases h
    · cases h
  | irem =>
    (have hn : n = 1 := by simpa using hch); subst hn
    intro H locs ls hP hD hS hl
    dsimp only at h
    unfold pm_irem at h
    split at h
    · split at h
      · rename_i hne
        cases h
        exact lv_irem hx hb hd hne (k H locs ls hP hD hS hl)
      · cases h
    · cases h
  | ineg => (have hn : n = 1 := by simpa using hch); subst hn; exact pm_ok_uI (fun _ => rfl) (fun H locs ls x rest kk => lv_ineg hx hb hd kk) h k
  | i2l => (have hn : n = 1 := by simpa using hch); subst hn; exact pm_ok_uI (fun _ => rfl) (fun H locs ls x rest kk => lv_i2l hx hb hd rfl kk) h k
  | i2s => (have hn : n = 1 := by simpa using hch); subst hn; exact pm_ok_uI (fun _ => rfl) (fun H locs ls x rest kk => lv_i2s hx hb hd rfl kk) h k
  | ladd => (have hn : n = 1 := by simpa using hch); subst hn; exact pm_ok_bL (fun H locs ls x y rest kk => lv_ladd hx hb hd kk) h k
  | lsub => (have hn : n = 1 := by simpa using hch); subst hn; exact pm_ok_bL (fun H locs ls x y rest kk => lv_lsub hx hb hd kk) h k
  | lmul => (have hn : n = 1 := by simpa using hch); subst hn; exact pm_ok_bL (fun H locs ls x y rest kk => lv_lmul hx hb hd kk) h k
  | land => (have hn : n = 1 := by simpa using hch); subst hn; exact pm_ok_bL (fun H locs ls x y rest kk => lv_land hx hb hd kk) h k
  | lor => (have hn : n = 1 := by simpa using hch); subst hn; exact pm_ok_bL (fun H locs ls x y rest kk => lv_lor hx hb hd kk) h k
  | ldiv =>
    (have hn : n = 1 := by simpa using hch); subst hn
    intro H locs ls hP hD hS hl
    dsimp only at h
    unfold pm_ldiv at h
    split at h
    · split at h
      · rename_i hne
        cases h
        exact lv_ldiv hx hb hd hne (k H locs ls hP hD hS hl)
      · cases h
    · cases h
  | lrem =>
    (have hn : n = 1 := by simpa using hch); subst hn
    intro H locs ls hP hD hS hl
    dsimp only at h
    unfold pm_lrem at h
    split at h
    · split at h
      · rename_i hne
        cases h
        exact lv_lrem hx hb hd hne (k H locs ls hP hD hS hl)
      · cases h
    · cases h
  | lneg => (have hn : n = 1 := by simpa using hch); subst hn; exact pm_ok_uL (fun _ => rfl) (fun H locs ls x rest kk => lv_lneg hx hb hd kk) h k
  | l2i => (have hn : n = 1 := by simpa using hch); subst hn; exact pm_ok_uL (fun _ => rfl) (fun H locs ls x rest kk => lv_l2i hx hb hd rfl kk) h k
  | lshl =>
    (have hn : n = 1 := by simpa using hch); subst hn
    intro H locs ls hP hD hS hl
    dsimp only at h
    unfold pm_lshl at h
    split at h
    · cases h
      exact lv_lshl hx hb hd rfl (k H locs ls hP hD hS hl)
    · cases h
  | lcmp =>
    (have hn : n = 1 := by simpa using hch); subst hn
    intro H locs ls hP hD hS hl
    dsimp only at h
    unfold pm_lcmp at h
    split at h
    · cases h
      exact W.lcmp hx hb hd (k H locs ls hP hD hS hl)
    · cases h
  | dup =>
    (have hn : n = 1 := by simpa using hch); subst hn
    intro H locs ls hP hD hS hl
    dsimp only at h
    unfold pm_dup at h
    split at h
    · split at h
      · rename_i hc
        cases h
        exact lv_dup hx hb hd (by rw [pm_cv_cat]; exact hc) (k H locs ls hP hD hS hl)
      · cases h
    · cases h
  | pop =>
    (have hn : n = 1 := by simpa using hch); subst hn
    intro H locs ls hP hD hS hl
    dsimp only at h
    unfold pm_pop at h
    split at h
    · split at h
      · rename_i hc
        cases h
        exact lv_pop hx hb hd (by rw [pm_cv_cat]; exact hc) (k H locs ls hP hD hS hl)
      · cases h
    · cases h
  | dup2 =>
    (have hn : n = 1 := by simpa using hch); subst hn
    intro H locs ls hP hD hS hl
    dsimp only at h
    unfold pm_dup2 at h
    split at h
    · split at h
      · rename_i hc
        cases h
        exact lv_dup2_11 hx hb hd (by rw [pm_cv_cat]; exact hc.1) (by rw [pm_cv_cat]; exact hc.2) (k H locs ls hP hD hS hl)
      · cases h
    · cases h
  | ifCond cnd off =>
    simp only [Bool.and_eq_true, beq_iff_eq, decide_eq_true_eq] at hch
    obtain ⟨rfl, ht⟩ := hch
    cases cnd with
    | eq => exact pm_ok_if1 (fun H locs ls x rest kt kf => lv_if_eq hx hb hd ht kt kf) h k
    | ne => exact pm_ok_if1 (fun H locs ls x rest kt kf => lv_if_ne hx hb hd ht kt (fun q => kf (fun z => z q))) h k
    | lt => exact pm_ok_if1 (fun H locs ls x rest kt kf => lv_if_lt hx hb hd ht kt kf) h k
    | ge => exact pm_ok_if1 (fun H locs ls x rest kt kf => lv_if_ge hx hb hd ht kt kf) h k
    | gt => exact pm_ok_if1 (fun H locs ls x rest kt kf => lv_if_gt hx hb hd ht kt kf) h k
    | le => exact pm_ok_if1 (fun H locs ls x rest kt kf => lv_if_le hx hb hd ht kt kf) h k
  | if_icmp cnd off =>
    simp only [Bool.and_eq_true, beq_iff_eq, decide_eq_true_eq] at hch
    obtain ⟨rfl, ht⟩ := hch
    cases cnd with
    | eq => exact pm_ok_if2 (fun H locs ls x y rest kt kf => lv_icmp_eq hx hb hd ht kt kf) h k
    | ne => exact pm_ok_if2 (fun H locs ls x y rest kt kf => lv_icmp_ne hx hb hd ht kt (fun q => kf (fun z => z q))) h k
    | lt => exact pm_ok_if2 (fun H locs ls x y rest kt kf => lv_icmp_lt hx hb hd ht kt kf) h k
    | ge => exact pm_ok_if2 (fun H locs ls x y rest kt kf => lv_icmp_ge hx hb hd ht kt kf) h k
    | gt => exact pm_ok_if2 (fun H locs ls x y rest kt kf => lv_icmp_gt hx hb hd ht kt kf) h k
    | le => exact pm_ok_if2 (fun H locs ls x y rest kt kf => lv_icmp_le hx hb hd ht kt kf) h k
  | goto off =>
    simp only [Bool.and_eq_true, beq_iff_eq, decide_eq_true_eq] at hch
    obtain ⟨rfl, ht⟩ := hch
    intro H locs ls hP hD hS hl
    obtain ⟨pc, al, st, M⟩ := σ
    cases h
    exact lv_goto hx hb hd ht (k H locs ls hP hD hS hl)
  | tableswitch dd lo hi offs =>
    dsimp only at h
    intro H locs ls hP hD hS hl
    cases aux with
    | nil => cases hch
    | cons t ks =>
      simp only [Bool.and_eq_true, decide_eq_true_eq, List.all_eq_true, List.mem_range, Bool.or_eq_true, Bool.not_eq_true', decide_eq_false_iff_not, List.contains_iff_mem] at hch
      obtain ⟨⟨⟨ht, hlo, hhi⟩, hsw⟩, hkeys⟩ := hch
      unfold pm_switch at h
      split at h
      · rename_i pc al x r M t' ks' haux
        cases haux
        cases h
        rcases pm_sw_tab (x := x) (d := t) ks hsw with q | q
        · obtain ⟨k0, t0, q1, q2, q3, q4⟩ := q
          have hxi : x.toInt = (k0 : Int) := toInt_of q2 (by omega)
          split at q4
          · rename_i hb2
            have k2 := k H locs ls hP hD hS hl
            dsimp only at k2
            rw [q1] at k2
            exact lv_tableIn hx hb hd (by rw [hxi]; omega) (by rw [hxi]; omega) (by rw [hxi]; exact q4) (by omega) k2
          · cases q4
        · have k2 := k H locs ls hP hD hS hl
          dsimp only at k2
          rw [q.1] at k2
          refine lv_tableOut hx hb hd ?_ ht k2
          by_cases h1 : x.toInt < lo
          · exact Or.inl h1
          · refine Or.inr ?_
            by_cases h2 : hi < x.toInt
            · exact h2
            · exfalso
              have hz : ((x.toInt.toNat : Nat) : Int) = x.toInt := by omega
              rcases hkeys x.toInt.toNat (by omega) with g | g
              · exact g ⟨by omega, by omega⟩
              · exact q.2 _ g (Int32.toInt_inj.mp (by rw [toInt_of rfl (by omega)]; exact hz.symm))
      · cases h
  | lookupswitch dd ps =>
    dsimp only at h
    intro H locs ls hP hD hS hl
    cases aux with
    | nil => cases hch
    | cons t ks =>
      rw [Bool.and_eq_true, Bool.and_eq_true, Bool.and_eq_true, decide_eq_true_eq, decide_eq_true_eq] at hch
      obtain ⟨⟨⟨ht, hzip⟩, hmap⟩, hkeys⟩ := hch
      unfold pm_switch at h
      split at h
      · rename_i pc al x r M t' ks' haux
        cases haux
        cases h
        exact lv_lookup hx hb hd hzip rfl (pm_sw_look ht _ _ hmap (fun k2 hk2 => by simpa using List.all_eq_true.mp hkeys k2 hk2)) (k H locs ls hP hD hS hl)
      · cases h
  | iaload => (have hn : n = 1 := by simpa using hch); subst hn; exact pm_ok_iald C0 hd h k
  | baload => (have hn : n = 1 := by simpa using hch); subst hn; exact pm_ok_zald C0 hd h k
  | laload => (have hn : n = 1 := by simpa using hch); subst hn; exact pm_ok_lald C0 hd h k
  | aaload => (have hn : n = 1 := by simpa using hch); subst hn; exact pm_ok_aald C0 hd h k
  | iastore => (have hn : n = 1 := by simpa using hch); subst hn; exact pm_ok_iast C0 hd h k
  | bastore => (have hn : n = 1 := by simpa using hch); subst hn; exact pm_ok_zast C0 hd h k
  | lastore => (have hn : n = 1 := by simpa using hch); subst hn; exact pm_ok_last C0 hd h k
  | arraylength => (have hn : n = 1 := by simpa using hch); subst hn; exact pm_ok_alen C0 hd h k
  | getfield i =>
    rw [Bool.and_eq_true, beq_iff_eq] at hch
    obtain ⟨rfl, hch⟩ := hch
    split at hch
    · rename_i ci k0 pl
      split at hch
      · rename_i C T N hcl
        simp only [Bool.and_eq_true, decide_eq_true_eq] at hch
        exact pm_ok_getf C0 hcl hch.1 (pm_w_word hts hch.2) hd h k
      · cases hch
    · cases hch
  | putfield i =>
    rw [Bool.and_eq_true, beq_iff_eq] at hch
    obtain ⟨rfl, hch⟩ := hch
    split at hch
    · rename_i ci k0 pl
      split at hch
      · rename_i C T N hcl
        simp only [Bool.and_eq_true, decide_eq_true_eq, Bool.not_eq_true'] at hch
        exact pm_ok_putf C0 hcl hch.1.1 hch.1.2 (pm_w_word hts hch.2) hd h k
      · cases hch
    · cases hch
  | getstatic i =>
    rw [Bool.and_eq_true, beq_iff_eq] at hch
    obtain ⟨rfl, hch⟩ := hch
    intro H locs ls hP hD hS hl
    split at hch
    · cases h
      exact va_gets hx hb hZ.1.1 hS hown (pm_w_word hts hch) (fun _ h9 => h9) hd (k H locs ls hP hD hS hl)
    · cases h
      exact va_gets hx hb hZ.2.1 hS hown (pm_w_word hts hch) (fun _ h9 => h9) hd (k H locs ls hP hD hS hl)
    · cases hch
  | invokestatic i =>
    rw [Bool.and_eq_true, beq_iff_eq] at hch
    obtain ⟨rfl, hch⟩ := hch
    dsimp only at h
    split at h
    · simp only [Bool.and_eq_true, decide_eq_true_eq] at hch
      exact pm_ok_copyI C0 hd (pm_w_word hts hch.1.1.1.2) (pm_w_word hts hch.1.1.2) (pm_w_word hts hch.1.2) (pm_w_word hts hch.2) h k
    · simp only [Bool.and_eq_true, decide_eq_true_eq] at hch
      exact pm_ok_copyL C0 hd (pm_w_word hts hch.1.1.1.2) (pm_w_word hts hch.1.1.2) (pm_w_word hts hch.1.2) (pm_w_word hts hch.2) h k
    · simp only [Bool.and_eq_true] at hch
      exact pm_ok_abs C0 hd (pm_w_word hts hch.1.1.1) (pm_w_word hts hch.1.1.2) (pm_w_word hts hch.1.2) (pm_w_word hts hch.2) h k
    · simp only [Bool.and_eq_true] at hch
      exact pm_ok_max C0 hd (pm_w_word hts hch.1.1.1) (pm_w_word hts hch.1.1.2) (pm_w_word hts hch.1.2) (pm_w_word hts hch.2) h k
    · cases h
  | _ => cases h
end PMQ
