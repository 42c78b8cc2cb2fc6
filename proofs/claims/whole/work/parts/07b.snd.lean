section PMP
variable {p : Program} {l : Launch} {e : Env} {R : Room} {s : State} {m : MethodId} {args : Array Value} {below : List Frame} {meth : Method} {c : Code} {cells slots : Nat} {Q : State → Prop}
variable {own : String} {cc : ByteArray} {nL d : Nat} {X : pm_X} {D : va_G} {ad : Nat → Nat} {cA : Nat → ClassId} {A : Nat → Prop}
theorem pm_ok_iald {σ σ' : pm_St} (C0 : pm_Cx p R s m args c cells slots own cc nL d X D ad cA A) (hd : decode cc σ.1 = .ok (.iaload, 1))
    (h : pm_iald X σ = some σ') (k : pm_Ok p l e R s m args below meth c cells slots Q nL D ad cA A σ') : pm_Ok p l e R s m args below meth c cells slots Q nL D ad cA A σ := by
  intro H locs ls hP hD hS hl
  obtain ⟨hx, hb, -, -, -, -, hK, -, -, -, hX⟩ := C0
  unfold pm_iald at h
  split at h
  · rename_i pc al i a r M
    split at h
    · rename_i n hsh
      split at h
      · rename_i hin
        cases h
        exact va_iald hx hb hK hP a 0 (pm_W_get hsh) rfl (pm_in_vp hin) hd (k H locs ls hP hD hS hl)
      · cases h
    · cases h
    · split at h
      · rename_i ha
        split at h
        · rename_i L xs
          split at h
          · rename_i hin
            cases h
            subst ha
            obtain ⟨h1, h2, h3⟩ := hX L xs rfl
            exact va_sld hx hb h1 h2 h3 hS (pm_in_vp hin) hd (k H locs ls hP hD hS hl)
          · cases h
        · cases h
      · cases h
  · cases h
theorem pm_ok_zald {σ σ' : pm_St} (C0 : pm_Cx p R s m args c cells slots own cc nL d X D ad cA A) (hd : decode cc σ.1 = .ok (.baload, 1))
    (h : pm_zald σ = some σ') (k : pm_Ok p l e R s m args below meth c cells slots Q nL D ad cA A σ') : pm_Ok p l e R s m args below meth c cells slots Q nL D ad cA A σ := by
  intro H locs ls hP hD hS hl
  obtain ⟨hx, hb, -, -, -, -, hK, -, -, -, hX⟩ := C0
  unfold pm_zald at h
  split at h
  · rename_i pc al i a r M
    split at h
    · rename_i n hsh
      split at h
      · rename_i hin
        cases h
        exact va_zald hx hb hK hP a 1 (pm_W_get hsh) rfl (pm_in_vp hin) hd (k H locs ls hP hD hS hl)
      · cases h
    · cases h
  · cases h
theorem pm_ok_lald {σ σ' : pm_St} (C0 : pm_Cx p R s m args c cells slots own cc nL d X D ad cA A) (hd : decode cc σ.1 = .ok (.laload, 1))
    (h : pm_lald σ = some σ') (k : pm_Ok p l e R s m args below meth c cells slots Q nL D ad cA A σ') : pm_Ok p l e R s m args below meth c cells slots Q nL D ad cA A σ := by
  intro H locs ls hP hD hS hl
  obtain ⟨hx, hb, -, -, -, -, hK, hZ, -, -, hX⟩ := C0
  unfold pm_lald at h
  split at h
  · rename_i pc al i a r M
    split at h
    · rename_i n hsh
      split at h
      · rename_i hin
        cases h
        exact va_lald hx hb hK hP a 2 (pm_W_get hsh) rfl (pm_in_vp hin) hd (k H locs ls hP hD hS hl)
      · cases h
    · cases h
    · split at h
      · rename_i ha
        split at h
        · rename_i hin
          cases h
          subst ha
          exact va_tl hx hb hZ.1.2 hS (pm_in_vp hin) rfl hd (k H locs ls hP hD hS hl)
        · cases h
      · split at h
        · rename_i ha
          split at h
          · rename_i hin
            cases h
            subst ha
            exact va_tl hx hb hZ.2.2 hS (pm_in_vp hin) rfl hd (k H locs ls hP hD hS hl)
          · cases h
        · cases h
  · cases h
theorem pm_ok_aald {σ σ' : pm_St} (C0 : pm_Cx p R s m args c cells slots own cc nL d X D ad cA A) (hd : decode cc σ.1 = .ok (.aaload, 1))
    (h : pm_aald σ = some σ') (k : pm_Ok p l e R s m args below meth c cells slots Q nL D ad cA A σ') : pm_Ok p l e R s m args below meth c cells slots Q nL D ad cA A σ := by
  intro H locs ls hP hD hS hl
  obtain ⟨hx, hb, -, -, -, -, hK, hZ, -, -, hX⟩ := C0
  unfold pm_aald at h
  split at h
  · rename_i pc al i a r M
    split at h
    · rename_i n hsh
      split at h
      · rename_i hin
        cases h
        refine va_aldq hx hb hK hP a 3 (C := "PalletRounds$Sheet") (pm_W_get hsh) rfl (pm_in_vp hin.1) hd ?_
        have k2 := k H locs ls hP hD hS hl
        simp only [hin.2, if_true, va_rf]
        exact k2
      · cases h
    · cases h
  · cases h
theorem pm_ok_iast {σ σ' : pm_St} (C0 : pm_Cx p R s m args c cells slots own cc nL d X D ad cA A) (hd : decode cc σ.1 = .ok (.iastore, 1))
    (h : pm_iast σ = some σ') (k : pm_Ok p l e R s m args below meth c cells slots Q nL D ad cA A σ') : pm_Ok p l e R s m args below meth c cells slots Q nL D ad cA A σ := by
  intro H locs ls hP hD hS hl
  obtain ⟨hx, hb, -, -, -, -, hK, hZ, -, -, hX⟩ := C0
  unfold pm_iast at h
  split at h
  · rename_i pc al x i a r M
    split at h
    · rename_i n hsh
      split at h
      · rename_i hin
        cases h
        have hset : (pm_W ad cA M).set a (ad a, .inl (cA 0, n, .inl (upd (M.1 a) i.toNatClampNeg x))) = pm_W ad cA (pm_sI M a i.toNatClampNeg x) :=
          pm_W_set hsh (by simp only [pm_ent, pm_cn]; rw [pm_sI_self]; rfl) (fun j hj => pm_sI_ne hj)
        refine va_iast hx hb hK hP hD hS a 0 (pm_W_get hsh) rfl (pm_in_vp hin) hd (fun H1 locs1 q1 q2 q3 => ?_)
        exact k H1 locs1 ls (by rw [← hset]; exact q1) (by rw [← hset]; exact q2) q3 hl
      · cases h
    · cases h
  · cases h
theorem pm_nar_bool {x : Int32} (h : x = 0 ∨ x = 1) : vp_nar .boolean x = x := by
  rcases h with rfl | rfl <;> rfl
theorem pm_ok_zast {σ σ' : pm_St} (C0 : pm_Cx p R s m args c cells slots own cc nL d X D ad cA A) (hd : decode cc σ.1 = .ok (.bastore, 1))
    (h : pm_zast σ = some σ') (k : pm_Ok p l e R s m args below meth c cells slots Q nL D ad cA A σ') : pm_Ok p l e R s m args below meth c cells slots Q nL D ad cA A σ := by
  intro H locs ls hP hD hS hl
  obtain ⟨hx, hb, -, -, -, -, hK, hZ, -, -, hX⟩ := C0
  unfold pm_zast at h
  split at h
  · rename_i pc al x i a r M
    split at h
    · rename_i n hsh
      split at h
      · rename_i hin
        cases h
        have hset : (pm_W ad cA M).set a (ad a, .inl (cA 1, n, .inl (upd (M.1 a) i.toNatClampNeg x))) = pm_W ad cA (pm_sI M a i.toNatClampNeg x) :=
          pm_W_set hsh (by simp only [pm_ent, pm_cn]; rw [pm_sI_self]; rfl) (fun j hj => pm_sI_ne hj)
        refine va_zast hx hb hK hP hD hS a 1 (pm_W_get hsh) rfl (pm_in_vp hin.1) hd (fun H1 locs1 q1 q2 q3 => ?_)
        rw [pm_nar_bool hin.2] at q1 q2
        exact k H1 locs1 ls (by rw [← hset]; exact q1) (by rw [← hset]; exact q2) q3 hl
      · cases h
    · cases h
  · cases h
theorem pm_ok_last {σ σ' : pm_St} (C0 : pm_Cx p R s m args c cells slots own cc nL d X D ad cA A) (hd : decode cc σ.1 = .ok (.lastore, 1))
    (h : pm_last σ = some σ') (k : pm_Ok p l e R s m args below meth c cells slots Q nL D ad cA A σ') : pm_Ok p l e R s m args below meth c cells slots Q nL D ad cA A σ := by
  intro H locs ls hP hD hS hl
  obtain ⟨hx, hb, -, -, -, -, hK, hZ, -, -, hX⟩ := C0
  unfold pm_last at h
  split at h
  · rename_i pc al x i a r M
    split at h
    · rename_i n hsh
      split at h
      · rename_i hin
        cases h
        have hset : (pm_W ad cA M).set a (ad a, .inl (cA 2, n, .inr (.inl (vp_updL (M.2 a) i.toNatClampNeg x)))) = pm_W ad cA (pm_sL M a i.toNatClampNeg x) :=
          pm_W_set hsh (by simp only [pm_ent, pm_cn]; rw [pm_sL_self]; rfl) (fun j hj => pm_sL_ne hj)
        refine va_last hx hb hK hP hD hS a 2 (pm_W_get hsh) rfl (pm_in_vp hin) hd (fun H1 locs1 q1 q2 q3 => ?_)
        exact k H1 locs1 ls (by rw [← hset]; exact q1) (by rw [← hset]; exact q2) q3 hl
      · cases h
    · cases h
  · cases h
theorem pm_ok_alen {σ σ' : pm_St} (C0 : pm_Cx p R s m args c cells slots own cc nL d X D ad cA A) (hd : decode cc σ.1 = .ok (.arraylength, 1))
    (h : pm_alen X σ = some σ') (k : pm_Ok p l e R s m args below meth c cells slots Q nL D ad cA A σ') : pm_Ok p l e R s m args below meth c cells slots Q nL D ad cA A σ := by
  intro H locs ls hP hD hS hl
  obtain ⟨hx, hb, -, -, -, -, hK, hZ, -, -, hX⟩ := C0
  unfold pm_alen at h
  split at h
  · rename_i pc al a r M
    split at h
    · rename_i t n hsh
      cases h
      have ht : t < 4 := by
        have h0 := pm_shC_ok
        unfold pm_shC at h0
        have h1 := List.all_eq_true.mp h0 _ (List.mem_of_getElem? (show pm_SH[a]? = some _ from hsh))
        simpa using h1
      match t, ht, hsh with
      | 0, _, hsh => exact va_alen hx hb hK hP a 0 (pm_W_get hsh) rfl rfl hd (k H locs ls hP hD hS hl)
      | 1, _, hsh => exact va_alen hx hb hK hP a 1 (pm_W_get hsh) rfl rfl hd (k H locs ls hP hD hS hl)
      | 2, _, hsh => exact va_alen hx hb hK hP a 2 (pm_W_get hsh) rfl rfl hd (k H locs ls hP hD hS hl)
      | 3, _, hsh => exact va_alen hx hb hK hP a 3 (pm_W_get hsh) rfl rfl hd (k H locs ls hP hD hS hl)
    · cases h
    · split at h
      · rename_i ha
        cases h
        subst ha
        exact va_tlen hx hb hZ.1.2 hS rfl hd (k H locs ls hP hD hS hl)
      · split at h
        · rename_i ha
          split at h
          · rename_i L xs
            cases h
            subst ha
            obtain ⟨h1, h2, h3⟩ := hX L _ rfl
            exact va_slen hx hb h1 h2 h3 hS hd (k H locs ls hP hD hS hl)
          · cases h
        · cases h
  · cases h
theorem pm_ok_getf {ci k0 i : Nat} {σ σ' : pm_St} (C0 : pm_Cx p R s m args c cells slots own cc nL d X D ad cA A) {C : String} {T : u_T} {N : Nat} (hcl : vwCl[ci]? = some (C, T, N)) (hk0 : k0 < N) (hw : (Cond.fieldLink own i (T k0).1 (T k0).2.1 (T k0).2.2.1).before args s = true) (hd : decode cc σ.1 = .ok (.getfield i, 3))
    (h : pm_getf ci k0 σ = some σ') (k : pm_Ok p l e R s m args below meth c cells slots Q nL D ad cA A σ') : pm_Ok p l e R s m args below meth c cells slots Q nL D ad cA A σ := by
  intro H locs ls hP hD hS hl
  obtain ⟨hx, hb, -, hown, hts, -, hK, hZ, -, -, hX⟩ := C0
  unfold pm_getf at h
  split at h
  · rename_i pc al a r M
    split at h
    · rename_i ci' fks hsh
      split at h
      · rename_i hci
        subst hci
        split at h <;> rename_i hf
        · cases h
          exact va_get hx hb hts (pm_lay_in hcl) hown hK hP a (pm_W_get hsh) hcl k0 hk0 hw (fun _ h9 => h9) (pm_fs_get hf) hd (k H locs ls hP hD hS hl)
        · cases h
          exact va_get hx hb hts (pm_lay_in hcl) hown hK hP a (pm_W_get hsh) hcl k0 hk0 hw (fun _ h9 => h9) (pm_fs_get hf) hd (k H locs ls hP hD hS hl)
        · cases h
          exact va_get hx hb hts (pm_lay_in hcl) hown hK hP a (pm_W_get hsh) hcl k0 hk0 hw (fun _ h9 => h9) (pm_fs_get hf) hd (k H locs ls hP hD hS hl)
        · cases h
          exact va_get hx hb hts (pm_lay_in hcl) hown hK hP a (pm_W_get hsh) hcl k0 hk0 hw (fun _ h9 => h9) (pm_fs_get hf) hd (k H locs ls hP hD hS hl)
        · cases h
      · cases h
    · cases h
  · cases h
theorem pm_put_set {M M' : pm_M} {a ci k0 : Nat} {fks : List (Nat × Nat)} {f : Nat × Nat} {v : Value} (hsh : pm_sh a = some (.inl (ci, fks))) (hf : fks[k0]? = some f) (hv : pm_fv ad M' a k0 f = v) (hj : ∀ j, j ≠ k0 → M'.1 a j = M.1 a j ∧ M'.2 a j = M.2 a j) (ho : ∀ i, i ≠ a → M'.1 i = M.1 i ∧ M'.2 i = M.2 i) :
    (pm_W ad cA M).set a (ad a, .inr (ci, (pm_fs ad M a fks).set k0 v)) = pm_W ad cA M' := by
  refine pm_W_set hsh ?_ ho
  simp only [pm_ent]
  rw [pm_fs_set hf hv (fun j g hj1 _ => by unfold pm_fv; rw [(hj j hj1).1, (hj j hj1).2])]
theorem pm_sI_at {M : pm_M} {a k : Nat} {v : Int32} : (pm_sI M a k v).1 a k = v := by simp [pm_sI]
theorem pm_sL_at {M : pm_M} {a k : Nat} {v : Int64} : (pm_sL M a k v).2 a k = v := by simp [pm_sL]
theorem pm_sI_j {M : pm_M} {a k : Nat} {v : Int32} (j : Nat) (h : j ≠ k) : (pm_sI M a k v).1 a j = M.1 a j ∧ (pm_sI M a k v).2 a j = M.2 a j := ⟨by simp [pm_sI, h], rfl⟩
theorem pm_sL_j {M : pm_M} {a k : Nat} {v : Int64} (j : Nat) (h : j ≠ k) : (pm_sL M a k v).1 a j = M.1 a j ∧ (pm_sL M a k v).2 a j = M.2 a j := ⟨rfl, by simp [pm_sL, h]⟩
theorem pm_ok_putf {ci k0 i : Nat} {σ σ' : pm_St} (C0 : pm_Cx p R s m args c cells slots own cc nL d X D ad cA A) {C : String} {T : u_T} {N : Nat} (hcl : vwCl[ci]? = some (C, T, N)) (hk0 : k0 < N) (hfin : (T k0).2.2.2 = false) (hw : (Cond.fieldLink own i (T k0).1 (T k0).2.1 (T k0).2.2.1).before args s = true) (hd : decode cc σ.1 = .ok (.putfield i, 3))
    (h : pm_putf ci k0 σ = some σ') (k : pm_Ok p l e R s m args below meth c cells slots Q nL D ad cA A σ') : pm_Ok p l e R s m args below meth c cells slots Q nL D ad cA A σ := by
  intro H locs ls hP hD hS hl
  obtain ⟨hx, hb, -, hown, hts, -, hK, hZ, -, -, hX⟩ := C0
  unfold pm_putf at h
  split at h
  · rename_i pc al x a r M
    split at h
    · rename_i ci' fks hsh
      split at h
      · rename_i hci
        subst hci
        obtain ⟨C', T', N', hcl', hlen, hty⟩ := pm_sh_obj hsh
        cases hcl.symm.trans hcl'
        split at h <;> rename_i hf
        · cases h
          have hset := pm_put_set (ad := ad) (cA := cA) (v := .int x) hsh hf (by unfold pm_fv; rw [pm_sI_at]; rfl) (fun j hj => pm_sI_j (M := M) (v := x) j hj) (fun j hj => pm_sI_ne hj)
          refine va_put (v := .int x) (ty := .int) hx hb hts (pm_lay_in hcl) (pm_tyf ci') (pm_tyf_ok hcl) (pm_nm_ok hcl) hown hK hP hD hS a (pm_W_get hsh) hcl k0 hk0 hw (fun _ h9 => h9) hfin (by rw [(hty k0 hk0 _ hf).1 rfl]; decide +kernel) rfl rfl (by rw [pm_fs_len, hlen]; exact hk0) hd (fun H1 locs1 q1 q2 q3 => ?_)
          exact k H1 locs1 ls (by rw [← hset]; exact q1) (by rw [← hset]; exact q2) q3 hl
        · split at h
          · rename_i hbo
            cases h
            have hset := pm_put_set (ad := ad) (cA := cA) (v := .int x) hsh hf (by unfold pm_fv; rw [pm_sI_at]; rfl) (fun j hj => pm_sI_j (M := M) (v := x) j hj) (fun j hj => pm_sI_ne hj)
            refine va_put (v := .int x) (ty := .boolean) hx hb hts (pm_lay_in hcl) (pm_tyf ci') (pm_tyf_ok hcl) (pm_nm_ok hcl) hown hK hP hD hS a (pm_W_get hsh) hcl k0 hk0 hw (fun _ h9 => h9) hfin (by rw [(hty k0 hk0 _ hf).2.2 rfl]; decide +kernel) (by rcases hbo with rfl | rfl <;> rfl) (by rcases hbo with rfl | rfl <;> rfl) (by rw [pm_fs_len, hlen]; exact hk0) hd (fun H1 locs1 q1 q2 q3 => ?_)
            exact k H1 locs1 ls (by rw [← hset]; exact q1) (by rw [← hset]; exact q2) q3 hl
          · cases h
        · cases h
      · cases h
    · cases h
  · rename_i pc al x a r M
    split at h
    · rename_i ci' fks hsh
      split at h
      · rename_i hci
        subst hci
        obtain ⟨C', T', N', hcl', hlen, hty⟩ := pm_sh_obj hsh
        cases hcl.symm.trans hcl'
        split at h <;> rename_i hf
        · cases h
          have hset := pm_put_set (ad := ad) (cA := cA) (v := .long x) hsh hf (by unfold pm_fv; rw [pm_sL_at]; rfl) (fun j hj => pm_sL_j (M := M) (v := x) j hj) (fun j hj => pm_sL_ne hj)
          refine va_put (v := .long x) (ty := .long) hx hb hts (pm_lay_in hcl) (pm_tyf ci') (pm_tyf_ok hcl) (pm_nm_ok hcl) hown hK hP hD hS a (pm_W_get hsh) hcl k0 hk0 hw (fun _ h9 => h9) hfin (by rw [(hty k0 hk0 _ hf).2.1 rfl]; decide +kernel) rfl rfl (by rw [pm_fs_len, hlen]; exact hk0) hd (fun H1 locs1 q1 q2 q3 => ?_)
          exact k H1 locs1 ls (by rw [← hset]; exact q1) (by rw [← hset]; exact q2) q3 hl
        · cases h
      · cases h
    · cases h
  · cases h
end PMP
