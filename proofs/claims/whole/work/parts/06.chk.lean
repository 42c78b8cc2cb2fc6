/-! WHAT THE TABLES OF THE SMALL MACHINE MUST SATISFY, checked by the kernel -/
def pm_w (i : Nat) (w : Jvm.Cond) : Bool := decide (lw_tbl[i]? = some w) && goodWord w
def pm_Ws : List Jvm.Cond := lw_tbl.filter goodWord
theorem pm_w_ok {i : Nat} {w : Jvm.Cond} (h : pm_w i w = true) : w ∈ pm_Ws := by
  unfold pm_w at h
  simp only [Bool.and_eq_true, decide_eq_true_eq] at h
  exact List.mem_filter.mpr ⟨List.mem_of_getElem? h.1, h.2⟩
theorem pm_Ws_good {ws : List Jvm.Cond} (h : ∀ w ∈ ws, w ∈ pm_Ws) : GoodIn pm_Ws ws := fun w hw => ⟨h w hw, good_of_word (List.mem_filter.mp (h w hw)).2⟩
def pm_tyf : Nat → Nat → FieldType
  | 0 => tyX0
  | 1 => tyX1
  | 2 => tyX2
  | 3 => tyX3
  | 4 => tyX4
  | 5 => tyX5
  | 6 => tyX6
  | _ => tyX7
theorem pm_tyf_ok {ci : Nat} {C : String} {T : u_T} {N : Nat} (h : vwCl[ci]? = some (C, T, N)) : ∀ k, k < N → parseFieldDescriptor (T k).2.2.1 = some (pm_tyf ci k) := by
  match ci, h with
  | 0, h => cases h; exact tyX0_ok
  | 1, h => cases h; exact tyX1_ok
  | 2, h => cases h; exact tyX2_ok
  | 3, h => cases h; exact tyX3_ok
  | 4, h => cases h; exact tyX4_ok
  | 5, h => cases h; exact tyX5_ok
  | 6, h => cases h; exact tyX6_ok
  | 7, h => cases h; exact tyX7_ok
  | k + 8, h => simp [vwCl] at h
theorem pm_nm_ok {ci : Nat} {C : String} {T : u_T} {N : Nat} (h : vwCl[ci]? = some (C, T, N)) : ∀ a, a < N → ∀ b, b < N → a ≠ b → (T a).2.1 ≠ (T b).2.1 := by
  match ci, h with
  | 0, h => cases h; exact nmX0
  | 1, h => cases h; exact nmX1
  | 2, h => cases h; exact nmX2
  | 3, h => cases h; exact nmX3
  | 4, h => cases h; exact nmX4
  | 5, h => cases h; exact nmX5
  | 6, h => cases h; exact nmX6
  | 7, h => cases h; exact nmX7
  | k + 8, h => simp [vwCl] at h
def pm_layC (ci : Nat) : Bool := match vwCl[ci]? with
  | some (C, T, N) => (u_ws C T N).all goodWord && decide ((u_ws C T N).map some = (pm_lays.getD ci []).map fun i => lw_tbl[i]?)
  | none => false
set_option maxRecDepth 100000 in
theorem pm_layC_ok : ∀ ci, ci < 8 → pm_layC ci = true := by decide +kernel
theorem pm_lay_in {ci : Nat} {C : String} {T : u_T} {N : Nat} (h : vwCl[ci]? = some (C, T, N)) : ∀ w ∈ u_ws C T N, w ∈ pm_Ws := by
  intro w hw
  have hci : ci < 8 := (List.getElem?_eq_some_iff.mp h).1
  have hc := pm_layC_ok ci hci
  unfold pm_layC at hc
  rw [h] at hc
  simp only [Bool.and_eq_true, decide_eq_true_eq, List.all_eq_true] at hc
  refine List.mem_filter.mpr ⟨?_, hc.1 w hw⟩
  have h1 : some w ∈ (u_ws C T N).map some := List.mem_map.mpr ⟨w, hw, rfl⟩
  rw [hc.2] at h1
  obtain ⟨i, -, hi⟩ := List.mem_map.mp h1
  exact List.mem_of_getElem? hi
def pm_shC : Bool := pm_SH.all fun sh => match sh with
  | .inl (ci, fks) => (match vwCl[ci]? with
    | some (_, T, N) => fks.length == N && (List.range N).all fun k => (match fks[k]? with
      | some (0, _) => (T k).2.2.1 == "I"
      | some (1, _) => (T k).2.2.1 == "J"
      | some (3, _) => (T k).2.2.1 == "Z"
      | some (2, _) => true
      | _ => false)
    | none => false)
  | .inr (t, _) => decide (t < 4)
theorem pm_shC_ok : pm_shC = true := by decide +kernel
theorem pm_sh_obj {a ci : Nat} {fks : List (Nat × Nat)} (h : pm_sh a = some (.inl (ci, fks))) : ∃ C T N, vwCl[ci]? = some (C, T, N) ∧ fks.length = N ∧ ∀ k, k < N → ∀ f, fks[k]? = some f → (f.1 = 0 → (T k).2.2.1 = "I") ∧ (f.1 = 1 → (T k).2.2.1 = "J") ∧ (f.1 = 3 → (T k).2.2.1 = "Z") := by
  have h0 := pm_shC_ok
  unfold pm_shC at h0
  have h1 := List.all_eq_true.mp h0 _ (List.mem_of_getElem? (show pm_SH[a]? = some _ from h))
  simp only at h1
  split at h1
  · rename_i C T N hcl
    simp only [Bool.and_eq_true, beq_iff_eq, List.all_eq_true, List.mem_range] at h1
    refine ⟨C, T, N, hcl, h1.1, fun k hk f hf => ?_⟩
    have h2 := h1.2 k hk
    rw [hf] at h2
    obtain ⟨f1, f2⟩ := f
    split at h2
    · rename_i q; cases q
      exact ⟨fun _ => by simpa using h2, fun q => (by cases q), fun q => (by cases q)⟩
    · rename_i q; cases q
      exact ⟨fun q => (by cases q), fun _ => by simpa using h2, fun q => (by cases q)⟩
    · rename_i q; cases q
      exact ⟨fun q => (by cases q), fun q => (by cases q), fun _ => by simpa using h2⟩
    · rename_i q; cases q
      exact ⟨fun q => (by cases q), fun q => (by cases q), fun q => (by cases q)⟩
    · cases h2
  · cases h1
def pm_swC (pc : Nat) (f : Int → Option Int) : List Nat → Bool
  | k :: t :: r => decide (f (k : Int) = some ((t : Int) - (pc : Int))) && decide (k < 1000) && pm_swC pc f r
  | _ => true
def pm_prs : List Nat → List (Nat × Nat)
  | k :: t :: r => (k, t) :: pm_prs r
  | _ => []
def pm_keys : List Nat → List Nat
  | k :: _ :: r => k :: pm_keys r
  | _ => []
def pm_meC (m2 : Nat) : Bool := decide ((pm_me m2).1.cls ≠ "java/lang/invoke/MethodHandle" ∧ (pm_me m2).1.cls ≠ "java/lang/invoke/VarHandle")
/-- an instruction's row of the table is what the bytes and the claim's words say -/
def pm_chE (own : String) (nL : Nat) (cc : ByteArray) (pc : Nat) (e : pm_E) : Bool := decide (decode cc pc = .ok (e.1, e.2.1)) && match e.1 with
  | .iconst n => e.2.1 == 1 && decide (e.2.2.2 = .int (Int32.ofInt n))
  | .bipush n => e.2.1 == 2 && decide (e.2.2.2 = .int (Int8.ofInt n).toInt32)
  | .sipush n => e.2.1 == 3 && decide (e.2.2.2 = .int (Int16.ofInt n).toInt32)
  | .lconst n => e.2.1 == 1 && decide (e.2.2.2 = .long (Int64.ofNat n))
  | .ldc i => e.2.1 == 2 && (match e.2.2.2 with
    | .int v => pm_w (e.2.2.1.headD 0) (.constant own i v)
    | _ => false)
  | .ldc_w i => e.2.1 == 3 && (match e.2.2.2 with
    | .int v => pm_w (e.2.2.1.headD 0) (.constant own i v)
    | _ => false)
  | .ldc2_w i => e.2.1 == 3 && (match e.2.2.2 with
    | .long v => pm_w (e.2.2.1.headD 0) (.constantLong own i v)
    | _ => false)
  | .iinc i n => e.2.1 == 3 && decide (e.2.2.2 = .int (Int32.ofInt n)) && decide (i < nL)
  | .iload _ => e.2.1 == 2
  | .lload _ => e.2.1 == 2
  | .aload _ => e.2.1 == 2
  | .istore i => e.2.1 == 2 && decide (i < nL)
  | .lstore i => e.2.1 == 2 && decide (i + 1 < nL)
  | .astore i => e.2.1 == 2 && decide (i < nL)
  | .istore_n i => e.2.1 == 1 && decide ((i : Nat) < nL)
  | .lstore_n i => e.2.1 == 1 && decide ((i : Nat) + 1 < nL)
  | .astore_n i => e.2.1 == 1 && decide ((i : Nat) < nL)
  | .ifCond _ off => e.2.1 == 3 && decide ((pc : Int) + off = ((e.2.2.1.headD 0 : Nat) : Int))
  | .if_icmp _ off => e.2.1 == 3 && decide ((pc : Int) + off = ((e.2.2.1.headD 0 : Nat) : Int))
  | .goto off => e.2.1 == 3 && decide ((pc : Int) + off = ((e.2.2.1.headD 0 : Nat) : Int))
  | .tableswitch d lo hi offs => (match e.2.2.1 with
    | t :: ks => decide ((pc : Int) + d = (t : Int)) && decide (0 ≤ lo ∧ hi < 1000) && pm_swC pc (fun k => if lo ≤ k ∧ k ≤ hi then offs[(k - lo).toNat]? else none) ks && (List.range 1000).all (fun k => !(decide (lo ≤ (k : Int) ∧ (k : Int) ≤ hi)) || (pm_keys ks).contains k)
    | _ => false)
  | .lookupswitch d ps => (match e.2.2.1 with
    | t :: ks => decide ((pc : Int) + d = (t : Int)) && (ps.toList.zip (ps.toList.drop 1)).all (fun (a, next) => a.1 < next.1) && decide (ps.toList.map (fun q => (q.1, (pc : Int) + q.2)) = (pm_prs ks).map fun q => ((q.1 : Int), (q.2 : Int))) && ks.all (fun k => decide (k < 1000))
    | _ => false)
  | .getfield i => e.2.1 == 3 && (match e.2.2.1 with
    | [ci, k, p] => (match vwCl[ci]? with
      | some (_, T, N) => decide (k < N) && pm_w p (.fieldLink own i (T k).1 (T k).2.1 (T k).2.2.1)
      | none => false)
    | _ => false)
  | .putfield i => e.2.1 == 3 && (match e.2.2.1 with
    | [ci, k, p] => (match vwCl[ci]? with
      | some (_, T, N) => decide (k < N) && !(T k).2.2.2 && pm_w p (.fieldLink own i (T k).1 (T k).2.1 (T k).2.2.1)
      | none => false)
    | _ => false)
  | .getstatic i => e.2.1 == 3 && (match e.2.2.1 with
    | [100, p] => pm_w p (.fieldLink own i "PalletRounds" "FACTORIALS" "[J")
    | [101, p] => pm_w p (.fieldLink own i "PalletRounds" "CHOICES" "[J")
    | _ => false)
  | .invokevirtual i => e.2.1 == 3 && (match e.2.2.1 with
    | [m2, na, p1, p2, p3, p4, p5] => pm_meC m2 && decide (m2 + 1 < pm_MT.length) && !(pm_me m2).2.2.2.2.1 && decide ((vwCl[(pm_me m2).2.2.2.2.2]?).map (fun q => q.1) = some (pm_me m2).1.cls)
        && decide ((parseMethodDescriptor (pm_me m2).1.desc).map (fun d => d.parameters.length + 1) = some na)
        && pm_w p1 (.methodLink own i (pm_me m2).1) && pm_w p2 (.instanceMethod (pm_me m2).1) && pm_w p3 (.selects (pm_me m2).1.cls (pm_me m2).1 (pm_me m2).1) && pm_w p4 (.initialized (pm_me m2).1.cls) && pm_w p5 (.code (pm_me m2).1 (pm_me m2).2.1 (pm_me m2).2.2.1 (pm_me m2).2.2.2.1)
    | _ => false)
  | .invokestatic i => e.2.1 == 3 && (match e.2.2.1 with
    | [1000, t, p1, p2, p3, p4] => decide (t = 0 ∨ t = 2) && pm_w p1 (.methodLink own i arraycopyName) && pm_w p2 (.native arraycopyName) && pm_w p3 (.static arraycopyName) && pm_w p4 (.initialized "java/lang/System")
    | [1001, _, p1, p2, p3, p4] => pm_w p1 (.methodLink own i Lib.MathLoose.abs_long.x) && pm_w p2 (.static Lib.MathLoose.abs_long.x) && pm_w p3 (.initialized "java/lang/Math") && pm_w p4 (.code Lib.MathLoose.abs_long.x Lib.MathLoose.abs_long.code 2 (some .long))
    | [1002, _, p1, p2, p3, p4] => pm_w p1 (.methodLink own i Lib.MathLoose.max_long.x) && pm_w p2 (.static Lib.MathLoose.max_long.x) && pm_w p3 (.initialized "java/lang/Math") && pm_w p4 (.code Lib.MathLoose.max_long.x Lib.MathLoose.max_long.code 4 (some .long))
    | [m2, na, p1, p2, p3, p4] => pm_meC m2 && decide (m2 + 1 < pm_MT.length) && (pm_me m2).2.2.2.2.1 && decide ((parseMethodDescriptor (pm_me m2).1.desc).map (fun d => d.parameters.length) = some na)
        && pm_w p1 (.methodLink own i (pm_me m2).1) && pm_w p2 (.static (pm_me m2).1) && pm_w p3 (.initialized (pm_me m2).1.cls) && pm_w p4 (.code (pm_me m2).1 (pm_me m2).2.1 (pm_me m2).2.2.1 (pm_me m2).2.2.2.1)
    | [m2, na, _, p2, p3, p4, 1] => pm_meC m2 && decide (m2 + 1 < pm_MT.length) && (pm_me m2).2.2.2.2.1 && decide ((parseMethodDescriptor (pm_me m2).1.desc).map (fun d => d.parameters.length) = some na)
        && decide (.methodLinkNest own i (pm_me m2).1 "PalletRounds" ∈ pm_nests) && pm_w p2 (.static (pm_me m2).1) && pm_w p3 (.initialized (pm_me m2).1.cls) && pm_w p4 (.code (pm_me m2).1 (pm_me m2).2.1 (pm_me m2).2.2.1 (pm_me m2).2.2.2.1)
    | _ => false)
  | _ => e.2.1 == 1
def pm_chM (mid : Nat) : Bool := decide ((pm_me mid).2.2.1 ≤ 30) && plainName (pm_me mid).1.cls && (pm_tb mid).all fun l => l.all fun q => pm_chE (pm_me mid).1.cls (pm_me mid).2.2.1 (pm_me mid).2.1 q.1 q.2
